theorem dX12_take_17 : decode cX12_take 17 = .ok (.bipush (-3), 2) := by decide +kernel
theorem dX12_take_19 : decode cX12_take 19 = .ok (.ireturn, 1) := by decide +kernel
theorem dX12_take_20 : decode cX12_take 20 = .ok (.aload_n 0, 1) := by decide +kernel
theorem dX12_take_21 : decode cX12_take 21 = .ok (.iload_n 1, 1) := by decide +kernel
theorem dX12_take_22 : decode cX12_take 22 = .ok (.invokevirtual 188, 3) := by decide +kernel
theorem dX12_take_25 : decode cX12_take 25 = .ok (.aload_n 0, 1) := by decide +kernel
theorem dX12_take_26 : decode cX12_take 26 = .ok (.getfield 32, 3) := by decide +kernel
theorem dX12_take_29 : decode cX12_take 29 = .ok (.iconst 1, 1) := by decide +kernel
theorem dX12_take_30 : decode cX12_take 30 = .ok (.iaload, 1) := by decide +kernel
theorem dX12_take_31 : decode cX12_take 31 = .ok (.ireturn, 1) := by decide +kernel
theorem dX12_freshens_0 : decode cX12_freshens 0 = .ok (.iconst 1, 1) := by decide +kernel
theorem dX12_freshens_1 : decode cX12_freshens 1 = .ok (.istore_n 1, 1) := by decide +kernel
theorem dX12_freshens_2 : decode cX12_freshens 2 = .ok (.iload_n 1, 1) := by decide +kernel
theorem dX12_freshens_3 : decode cX12_freshens 3 = .ok (.sipush 875, 3) := by decide +kernel
theorem dX12_freshens_6 : decode cX12_freshens 6 = .ok (.if_icmp .ge 16, 3) := by decide +kernel
theorem dX12_freshens_9 : decode cX12_freshens 9 = .ok (.aload_n 0, 1) := by decide +kernel
theorem dX12_freshens_10 : decode cX12_freshens 10 = .ok (.getfield 32, 3) := by decide +kernel
theorem dX12_freshens_13 : decode cX12_freshens 13 = .ok (.iload_n 1, 1) := by decide +kernel
theorem dX12_freshens_14 : decode cX12_freshens 14 = .ok (.iconst 0, 1) := by decide +kernel
theorem dX12_freshens_15 : decode cX12_freshens 15 = .ok (.iastore, 1) := by decide +kernel
theorem dX12_freshens_16 : decode cX12_freshens 16 = .ok (.iinc 1 1, 3) := by decide +kernel
theorem dX12_freshens_19 : decode cX12_freshens 19 = .ok (.goto (-17), 3) := by decide +kernel
theorem dX12_freshens_22 : decode cX12_freshens 22 = .ok (.return_, 1) := by decide +kernel
theorem dX12_fresh_0 : decode cX12_fresh 0 = .ok (.aload_n 0, 1) := by decide +kernel
theorem dX12_fresh_1 : decode cX12_fresh 1 = .ok (.iconst 0, 1) := by decide +kernel
theorem dX12_fresh_2 : decode cX12_fresh 2 = .ok (.putfield 1, 3) := by decide +kernel
theorem dX12_fresh_5 : decode cX12_fresh 5 = .ok (.aload_n 0, 1) := by decide +kernel
theorem dX12_fresh_6 : decode cX12_fresh 6 = .ok (.getfield 32, 3) := by decide +kernel
theorem dX12_fresh_9 : decode cX12_fresh 9 = .ok (.bipush 16, 2) := by decide +kernel
theorem dX12_fresh_11 : decode cX12_fresh 11 = .ok (.iaload, 1) := by decide +kernel
theorem dX12_fresh_12 : decode cX12_fresh 12 = .ok (.istore_n 1, 1) := by decide +kernel
theorem dX12_fresh_13 : decode cX12_fresh 13 = .ok (.aload_n 0, 1) := by decide +kernel
theorem dX12_fresh_14 : decode cX12_fresh 14 = .ok (.invokevirtual 191, 3) := by decide +kernel
theorem dX12_fresh_17 : decode cX12_fresh 17 = .ok (.iload_n 1, 1) := by decide +kernel
theorem dX12_fresh_18 : decode cX12_fresh 18 = .ok (.ireturn, 1) := by decide +kernel
theorem dX12_state_0 : decode cX12_state 0 = .ok (.aload_n 0, 1) := by decide +kernel
theorem dX12_state_1 : decode cX12_state 1 = .ok (.iconst 0, 1) := by decide +kernel
theorem dX12_state_2 : decode cX12_state 2 = .ok (.putfield 1, 3) := by decide +kernel
theorem dX12_state_5 : decode cX12_state 5 = .ok (.iload_n 1, 1) := by decide +kernel
theorem dX12_state_6 : decode cX12_state 6 = .ok (.tableswitch 169 0 10 #[58, 65, 72, 79, 86, 94, 102, 124, 144, 151, 160], 58) := by decide +kernel
theorem dX12_state_64 : decode cX12_state 64 = .ok (.aload_n 0, 1) := by decide +kernel
theorem dX12_state_65 : decode cX12_state 65 = .ok (.getfield 32, 3) := by decide +kernel
theorem dX12_state_68 : decode cX12_state 68 = .ok (.iconst 1, 1) := by decide +kernel
theorem dX12_state_69 : decode cX12_state 69 = .ok (.iaload, 1) := by decide +kernel
theorem dX12_state_70 : decode cX12_state 70 = .ok (.ireturn, 1) := by decide +kernel
theorem dX12_state_71 : decode cX12_state 71 = .ok (.aload_n 0, 1) := by decide +kernel
theorem dX12_state_72 : decode cX12_state 72 = .ok (.getfield 32, 3) := by decide +kernel
theorem dX12_state_75 : decode cX12_state 75 = .ok (.iconst 2, 1) := by decide +kernel
theorem dX12_state_76 : decode cX12_state 76 = .ok (.iaload, 1) := by decide +kernel
theorem dX12_state_77 : decode cX12_state 77 = .ok (.ireturn, 1) := by decide +kernel
theorem dX12_state_78 : decode cX12_state 78 = .ok (.aload_n 0, 1) := by decide +kernel
theorem dX12_state_79 : decode cX12_state 79 = .ok (.getfield 32, 3) := by decide +kernel
theorem dX12_state_82 : decode cX12_state 82 = .ok (.iconst 3, 1) := by decide +kernel
theorem dX12_state_83 : decode cX12_state 83 = .ok (.iaload, 1) := by decide +kernel
theorem dX12_state_84 : decode cX12_state 84 = .ok (.ireturn, 1) := by decide +kernel
theorem dX12_state_85 : decode cX12_state 85 = .ok (.aload_n 0, 1) := by decide +kernel
theorem dX12_state_86 : decode cX12_state 86 = .ok (.getfield 32, 3) := by decide +kernel
theorem dX12_state_89 : decode cX12_state 89 = .ok (.iconst 4, 1) := by decide +kernel
theorem dX12_state_90 : decode cX12_state 90 = .ok (.iaload, 1) := by decide +kernel
theorem dX12_state_91 : decode cX12_state 91 = .ok (.ireturn, 1) := by decide +kernel
theorem dX12_state_92 : decode cX12_state 92 = .ok (.aload_n 0, 1) := by decide +kernel
theorem dX12_state_93 : decode cX12_state 93 = .ok (.getfield 32, 3) := by decide +kernel
theorem dX12_state_96 : decode cX12_state 96 = .ok (.bipush 7, 2) := by decide +kernel
theorem dX12_state_98 : decode cX12_state 98 = .ok (.iaload, 1) := by decide +kernel
theorem dX12_state_99 : decode cX12_state 99 = .ok (.ireturn, 1) := by decide +kernel
theorem dX12_state_100 : decode cX12_state 100 = .ok (.aload_n 0, 1) := by decide +kernel
theorem dX12_state_101 : decode cX12_state 101 = .ok (.getfield 32, 3) := by decide +kernel
theorem dX12_state_104 : decode cX12_state 104 = .ok (.bipush 8, 2) := by decide +kernel
theorem dX12_state_106 : decode cX12_state 106 = .ok (.iaload, 1) := by decide +kernel
theorem dX12_state_107 : decode cX12_state 107 = .ok (.ireturn, 1) := by decide +kernel
theorem dX12_state_108 : decode cX12_state 108 = .ok (.aload_n 0, 1) := by decide +kernel
theorem dX12_state_109 : decode cX12_state 109 = .ok (.getfield 32, 3) := by decide +kernel
theorem dX12_state_112 : decode cX12_state 112 = .ok (.bipush 6, 2) := by decide +kernel
theorem dX12_state_114 : decode cX12_state 114 = .ok (.iaload, 1) := by decide +kernel
theorem dX12_state_115 : decode cX12_state 115 = .ok (.ifCond .ne 13, 3) := by decide +kernel
theorem dX12_state_118 : decode cX12_state 118 = .ok (.aload_n 0, 1) := by decide +kernel
theorem dX12_state_119 : decode cX12_state 119 = .ok (.getfield 32, 3) := by decide +kernel
theorem dX12_state_122 : decode cX12_state 122 = .ok (.bipush 9, 2) := by decide +kernel
theorem dX12_state_124 : decode cX12_state 124 = .ok (.iaload, 1) := by decide +kernel
theorem dX12_state_125 : decode cX12_state 125 = .ok (.goto 4, 3) := by decide +kernel
theorem dX12_state_128 : decode cX12_state 128 = .ok (.iconst 0, 1) := by decide +kernel
theorem dX12_state_129 : decode cX12_state 129 = .ok (.ireturn, 1) := by decide +kernel
theorem dX12_state_130 : decode cX12_state 130 = .ok (.aload_n 0, 1) := by decide +kernel
theorem dX12_state_131 : decode cX12_state 131 = .ok (.getfield 32, 3) := by decide +kernel
theorem dX12_state_134 : decode cX12_state 134 = .ok (.iconst 5, 1) := by decide +kernel
theorem dX12_state_135 : decode cX12_state 135 = .ok (.iaload, 1) := by decide +kernel
theorem dX12_state_136 : decode cX12_state 136 = .ok (.bipush 40, 2) := by decide +kernel
theorem dX12_state_138 : decode cX12_state 138 = .ok (.if_icmp .ge 7, 3) := by decide +kernel
theorem dX12_state_141 : decode cX12_state 141 = .ok (.iconst (-1), 1) := by decide +kernel
theorem dX12_state_142 : decode cX12_state 142 = .ok (.goto 7, 3) := by decide +kernel
theorem dX12_state_145 : decode cX12_state 145 = .ok (.aload_n 0, 1) := by decide +kernel
theorem dX12_state_146 : decode cX12_state 146 = .ok (.invokevirtual 154, 3) := by decide +kernel
theorem dX12_state_149 : decode cX12_state 149 = .ok (.ireturn, 1) := by decide +kernel
theorem dX12_state_150 : decode cX12_state 150 = .ok (.aload_n 0, 1) := by decide +kernel
theorem dX12_state_151 : decode cX12_state 151 = .ok (.getfield 32, 3) := by decide +kernel
theorem dX12_state_154 : decode cX12_state 154 = .ok (.iconst 5, 1) := by decide +kernel
theorem dX12_state_155 : decode cX12_state 155 = .ok (.iaload, 1) := by decide +kernel
theorem dX12_state_156 : decode cX12_state 156 = .ok (.ireturn, 1) := by decide +kernel
theorem dX12_state_157 : decode cX12_state 157 = .ok (.aload_n 0, 1) := by decide +kernel
theorem dX12_state_158 : decode cX12_state 158 = .ok (.getfield 32, 3) := by decide +kernel
theorem dX12_state_161 : decode cX12_state 161 = .ok (.sipush 873, 3) := by decide +kernel
theorem dX12_state_164 : decode cX12_state 164 = .ok (.iaload, 1) := by decide +kernel
theorem dX12_state_165 : decode cX12_state 165 = .ok (.ireturn, 1) := by decide +kernel
theorem dX12_state_166 : decode cX12_state 166 = .ok (.aload_n 0, 1) := by decide +kernel
theorem dX12_state_167 : decode cX12_state 167 = .ok (.getfield 32, 3) := by decide +kernel
theorem dX12_state_170 : decode cX12_state 170 = .ok (.sipush 872, 3) := by decide +kernel
theorem dX12_state_173 : decode cX12_state 173 = .ok (.iaload, 1) := by decide +kernel
theorem dX12_state_174 : decode cX12_state 174 = .ok (.ireturn, 1) := by decide +kernel
theorem dX12_state_175 : decode cX12_state 175 = .ok (.bipush (-2), 2) := by decide +kernel
theorem dX12_state_177 : decode cX12_state 177 = .ok (.ireturn, 1) := by decide +kernel
theorem dX12_count_0 : decode cX12_count 0 = .ok (.aload_n 0, 1) := by decide +kernel
theorem dX12_count_1 : decode cX12_count 1 = .ok (.iconst 0, 1) := by decide +kernel
theorem dX12_count_2 : decode cX12_count 2 = .ok (.putfield 1, 3) := by decide +kernel
theorem dX12_count_5 : decode cX12_count 5 = .ok (.iload_n 1, 1) := by decide +kernel
theorem dX12_count_6 : decode cX12_count 6 = .ok (.i2l, 1) := by decide +kernel
theorem dX12_count_7 : decode cX12_count 7 = .ok (.lconst 0, 1) := by decide +kernel
theorem dX12_count_8 : decode cX12_count 8 = .ok (.ldc2_w 194, 3) := by decide +kernel
theorem dX12_count_11 : decode cX12_count 11 = .ok (.invokestatic 77, 3) := by decide +kernel
theorem dX12_count_14 : decode cX12_count 14 = .ok (.ifCond .eq 15, 3) := by decide +kernel
theorem dX12_count_17 : decode cX12_count 17 = .ok (.aload_n 0, 1) := by decide +kernel
theorem dX12_count_18 : decode cX12_count 18 = .ok (.getfield 32, 3) := by decide +kernel
theorem dX12_count_21 : decode cX12_count 21 = .ok (.bipush 13, 2) := by decide +kernel
theorem dX12_count_23 : decode cX12_count 23 = .ok (.iload_n 1, 1) := by decide +kernel
theorem dX12_count_24 : decode cX12_count 24 = .ok (.iadd, 1) := by decide +kernel
theorem dX12_count_25 : decode cX12_count 25 = .ok (.iaload, 1) := by decide +kernel
theorem dX12_count_26 : decode cX12_count 26 = .ok (.goto 5, 3) := by decide +kernel
theorem dX12_count_29 : decode cX12_count 29 = .ok (.bipush (-2), 2) := by decide +kernel
theorem dX12_count_31 : decode cX12_count 31 = .ok (.ireturn, 1) := by decide +kernel
theorem dX12_isKept_0 : decode cX12_isKept 0 = .ok (.iload_n 0, 1) := by decide +kernel
theorem dX12_isKept_1 : decode cX12_isKept 1 = .ok (.ifCond .lt 19, 3) := by decide +kernel
theorem dX12_isKept_4 : decode cX12_isKept 4 = .ok (.iload_n 0, 1) := by decide +kernel
theorem dX12_isKept_5 : decode cX12_isKept 5 = .ok (.iload_n 1, 1) := by decide +kernel
theorem dX12_isKept_6 : decode cX12_isKept 6 = .ok (.if_icmp .ge 14, 3) := by decide +kernel
theorem dX12_isKept_9 : decode cX12_isKept 9 = .ok (.iload_n 0, 1) := by decide +kernel
theorem dX12_isKept_10 : decode cX12_isKept 10 = .ok (.iload_n 1, 1) := by decide +kernel
theorem dX12_isKept_11 : decode cX12_isKept 11 = .ok (.iload_n 2, 1) := by decide +kernel
theorem dX12_isKept_12 : decode cX12_isKept 12 = .ok (.isub, 1) := by decide +kernel
theorem dX12_isKept_13 : decode cX12_isKept 13 = .ok (.if_icmp .lt 7, 3) := by decide +kernel
theorem dX12_isKept_16 : decode cX12_isKept 16 = .ok (.iconst 1, 1) := by decide +kernel
theorem dX12_isKept_17 : decode cX12_isKept 17 = .ok (.goto 4, 3) := by decide +kernel
theorem dX12_isKept_20 : decode cX12_isKept 20 = .ok (.iconst 0, 1) := by decide +kernel
theorem dX12_isKept_21 : decode cX12_isKept 21 = .ok (.ireturn, 1) := by decide +kernel
theorem dX12_cellAt_0 : decode cX12_cellAt 0 = .ok (.iload_n 1, 1) := by decide +kernel
theorem dX12_cellAt_1 : decode cX12_cellAt 1 = .ok (.aload_n 0, 1) := by decide +kernel
theorem dX12_cellAt_2 : decode cX12_cellAt 2 = .ok (.getfield 32, 3) := by decide +kernel
theorem dX12_cellAt_5 : decode cX12_cellAt 5 = .ok (.bipush 16, 2) := by decide +kernel
theorem dX12_cellAt_7 : decode cX12_cellAt 7 = .ok (.iaload, 1) := by decide +kernel
theorem dX12_cellAt_8 : decode cX12_cellAt 8 = .ok (.bipush 12, 2) := by decide +kernel
theorem dX12_cellAt_10 : decode cX12_cellAt 10 = .ok (.invokestatic 196, 3) := by decide +kernel
theorem dX12_cellAt_13 : decode cX12_cellAt 13 = .ok (.ifCond .eq 16, 3) := by decide +kernel
theorem dX12_cellAt_16 : decode cX12_cellAt 16 = .ok (.bipush 80, 2) := by decide +kernel
theorem dX12_cellAt_18 : decode cX12_cellAt 18 = .ok (.bipush 52, 2) := by decide +kernel
theorem dX12_cellAt_20 : decode cX12_cellAt 20 = .ok (.iload_n 1, 1) := by decide +kernel
theorem dX12_cellAt_21 : decode cX12_cellAt 21 = .ok (.bipush 12, 2) := by decide +kernel
theorem dX12_cellAt_23 : decode cX12_cellAt 23 = .ok (.irem, 1) := by decide +kernel
theorem dX12_cellAt_24 : decode cX12_cellAt 24 = .ok (.imul, 1) := by decide +kernel
theorem dX12_cellAt_25 : decode cX12_cellAt 25 = .ok (.iadd, 1) := by decide +kernel
theorem dX12_cellAt_26 : decode cX12_cellAt 26 = .ok (.goto 4, 3) := by decide +kernel
theorem dX12_cellAt_29 : decode cX12_cellAt 29 = .ok (.iconst (-1), 1) := by decide +kernel
theorem dX12_cellAt_30 : decode cX12_cellAt 30 = .ok (.ireturn, 1) := by decide +kernel
theorem dX12_isLike_0 : decode cX12_isLike 0 = .ok (.aload_n 0, 1) := by decide +kernel
theorem dX12_isLike_1 : decode cX12_isLike 1 = .ok (.getfield 32, 3) := by decide +kernel
theorem dX12_isLike_4 : decode cX12_isLike 4 = .ok (.iload_n 1, 1) := by decide +kernel
theorem dX12_isLike_5 : decode cX12_isLike 5 = .ok (.iaload, 1) := by decide +kernel
theorem dX12_isLike_6 : decode cX12_isLike 6 = .ok (.aload_n 0, 1) := by decide +kernel
theorem dX12_isLike_7 : decode cX12_isLike 7 = .ok (.getfield 26, 3) := by decide +kernel
theorem dX12_isLike_10 : decode cX12_isLike 10 = .ok (.iload_n 2, 1) := by decide +kernel
theorem dX12_isLike_11 : decode cX12_isLike 11 = .ok (.iaload, 1) := by decide +kernel
theorem dX12_isLike_12 : decode cX12_isLike 12 = .ok (.if_icmp .ne 26, 3) := by decide +kernel
theorem dX12_isLike_15 : decode cX12_isLike 15 = .ok (.aload_n 0, 1) := by decide +kernel
theorem dX12_isLike_16 : decode cX12_isLike 16 = .ok (.getfield 32, 3) := by decide +kernel
theorem dX12_isLike_19 : decode cX12_isLike 19 = .ok (.iload_n 1, 1) := by decide +kernel
theorem dX12_isLike_20 : decode cX12_isLike 20 = .ok (.iconst 3, 1) := by decide +kernel
theorem dX12_isLike_21 : decode cX12_isLike 21 = .ok (.iadd, 1) := by decide +kernel
theorem dX12_isLike_22 : decode cX12_isLike 22 = .ok (.iaload, 1) := by decide +kernel
theorem dX12_isLike_23 : decode cX12_isLike 23 = .ok (.aload_n 0, 1) := by decide +kernel
theorem dX12_isLike_24 : decode cX12_isLike 24 = .ok (.getfield 26, 3) := by decide +kernel
theorem dX12_isLike_27 : decode cX12_isLike 27 = .ok (.iload_n 2, 1) := by decide +kernel
theorem dX12_isLike_28 : decode cX12_isLike 28 = .ok (.iconst 1, 1) := by decide +kernel
theorem dX12_isLike_29 : decode cX12_isLike 29 = .ok (.iadd, 1) := by decide +kernel
theorem dX12_isLike_30 : decode cX12_isLike 30 = .ok (.iaload, 1) := by decide +kernel
theorem dX12_isLike_31 : decode cX12_isLike 31 = .ok (.if_icmp .ne 7, 3) := by decide +kernel
theorem dX12_isLike_34 : decode cX12_isLike 34 = .ok (.iconst 1, 1) := by decide +kernel
theorem dX12_isLike_35 : decode cX12_isLike 35 = .ok (.goto 4, 3) := by decide +kernel
theorem dX12_isLike_38 : decode cX12_isLike 38 = .ok (.iconst 0, 1) := by decide +kernel
theorem dX12_isLike_39 : decode cX12_isLike 39 = .ok (.istore_n 3, 1) := by decide +kernel
theorem dX12_isLike_40 : decode cX12_isLike 40 = .ok (.iconst 0, 1) := by decide +kernel
theorem dX12_isLike_41 : decode cX12_isLike 41 = .ok (.istore 4, 2) := by decide +kernel
theorem dX12_isLike_43 : decode cX12_isLike 43 = .ok (.iload 4, 2) := by decide +kernel
theorem dX12_isLike_45 : decode cX12_isLike 45 = .ok (.aload_n 0, 1) := by decide +kernel
theorem dX12_isLike_46 : decode cX12_isLike 46 = .ok (.getfield 26, 3) := by decide +kernel
theorem dX12_isLike_49 : decode cX12_isLike 49 = .ok (.iload_n 2, 1) := by decide +kernel
theorem dX12_isLike_50 : decode cX12_isLike 50 = .ok (.iconst 1, 1) := by decide +kernel
theorem dX12_isLike_51 : decode cX12_isLike 51 = .ok (.iadd, 1) := by decide +kernel
theorem dX12_isLike_52 : decode cX12_isLike 52 = .ok (.iaload, 1) := by decide +kernel
theorem dX12_isLike_53 : decode cX12_isLike 53 = .ok (.if_icmp .ge 44, 3) := by decide +kernel
theorem dX12_isLike_56 : decode cX12_isLike 56 = .ok (.iload_n 3, 1) := by decide +kernel
theorem dX12_isLike_57 : decode cX12_isLike 57 = .ok (.ifCond .eq 40, 3) := by decide +kernel
theorem dX12_isLike_60 : decode cX12_isLike 60 = .ok (.aload_n 0, 1) := by decide +kernel
theorem dX12_isLike_61 : decode cX12_isLike 61 = .ok (.getfield 32, 3) := by decide +kernel
theorem dX12_isLike_64 : decode cX12_isLike 64 = .ok (.iload_n 1, 1) := by decide +kernel
theorem dX12_isLike_65 : decode cX12_isLike 65 = .ok (.iconst 4, 1) := by decide +kernel
theorem dX12_isLike_66 : decode cX12_isLike 66 = .ok (.iadd, 1) := by decide +kernel
theorem dX12_isLike_67 : decode cX12_isLike 67 = .ok (.iload 4, 2) := by decide +kernel
theorem dX12_isLike_69 : decode cX12_isLike 69 = .ok (.iadd, 1) := by decide +kernel
theorem dX12_isLike_70 : decode cX12_isLike 70 = .ok (.iaload, 1) := by decide +kernel
theorem dX12_isLike_71 : decode cX12_isLike 71 = .ok (.aload_n 0, 1) := by decide +kernel
theorem dX12_isLike_72 : decode cX12_isLike 72 = .ok (.getfield 26, 3) := by decide +kernel
theorem dX12_isLike_75 : decode cX12_isLike 75 = .ok (.iload_n 2, 1) := by decide +kernel
theorem dX12_isLike_76 : decode cX12_isLike 76 = .ok (.iconst 2, 1) := by decide +kernel
theorem dX12_isLike_77 : decode cX12_isLike 77 = .ok (.iadd, 1) := by decide +kernel
theorem dX12_isLike_78 : decode cX12_isLike 78 = .ok (.iload 4, 2) := by decide +kernel
theorem dX12_isLike_80 : decode cX12_isLike 80 = .ok (.iadd, 1) := by decide +kernel
theorem dX12_isLike_81 : decode cX12_isLike 81 = .ok (.iaload, 1) := by decide +kernel
theorem dX12_isLike_82 : decode cX12_isLike 82 = .ok (.if_icmp .ne 7, 3) := by decide +kernel
theorem dX12_isLike_85 : decode cX12_isLike 85 = .ok (.iconst 1, 1) := by decide +kernel
theorem dX12_isLike_86 : decode cX12_isLike 86 = .ok (.goto 4, 3) := by decide +kernel
theorem dX12_isLike_89 : decode cX12_isLike 89 = .ok (.iconst 0, 1) := by decide +kernel
theorem dX12_isLike_90 : decode cX12_isLike 90 = .ok (.istore_n 3, 1) := by decide +kernel
theorem dX12_isLike_91 : decode cX12_isLike 91 = .ok (.iinc 4 1, 3) := by decide +kernel
theorem dX12_isLike_94 : decode cX12_isLike 94 = .ok (.goto (-51), 3) := by decide +kernel
theorem dX12_isLike_97 : decode cX12_isLike 97 = .ok (.iload_n 3, 1) := by decide +kernel
theorem dX12_isLike_98 : decode cX12_isLike 98 = .ok (.ireturn, 1) := by decide +kernel
theorem dX12_foundOf_0 : decode cX12_foundOf 0 = .ok (.iconst 0, 1) := by decide +kernel
theorem dX12_foundOf_1 : decode cX12_foundOf 1 = .ok (.istore_n 2, 1) := by decide +kernel
theorem dX12_foundOf_2 : decode cX12_foundOf 2 = .ok (.iload_n 2, 1) := by decide +kernel
theorem dX12_foundOf_3 : decode cX12_foundOf 3 = .ok (.aload_n 0, 1) := by decide +kernel
theorem dX12_foundOf_4 : decode cX12_foundOf 4 = .ok (.getfield 109, 3) := by decide +kernel
theorem dX12_foundOf_7 : decode cX12_foundOf 7 = .ok (.if_icmp .ge 23, 3) := by decide +kernel
theorem dX12_foundOf_10 : decode cX12_foundOf 10 = .ok (.aload_n 0, 1) := by decide +kernel
theorem dX12_foundOf_11 : decode cX12_foundOf 11 = .ok (.iload_n 1, 1) := by decide +kernel
theorem dX12_foundOf_12 : decode cX12_foundOf 12 = .ok (.bipush 50, 2) := by decide +kernel
theorem dX12_foundOf_14 : decode cX12_foundOf 14 = .ok (.iload_n 2, 1) := by decide +kernel
theorem dX12_foundOf_15 : decode cX12_foundOf 15 = .ok (.imul, 1) := by decide +kernel
theorem dX12_foundOf_16 : decode cX12_foundOf 16 = .ok (.invokevirtual 200, 3) := by decide +kernel
theorem dX12_foundOf_19 : decode cX12_foundOf 19 = .ok (.ifCond .eq 5, 3) := by decide +kernel
theorem dX12_foundOf_22 : decode cX12_foundOf 22 = .ok (.iload_n 2, 1) := by decide +kernel
theorem dX12_foundOf_23 : decode cX12_foundOf 23 = .ok (.ireturn, 1) := by decide +kernel
theorem dX12_foundOf_24 : decode cX12_foundOf 24 = .ok (.iinc 2 1, 3) := by decide +kernel
theorem dX12_foundOf_27 : decode cX12_foundOf 27 = .ok (.goto (-25), 3) := by decide +kernel
theorem dX12_foundOf_30 : decode cX12_foundOf 30 = .ok (.iconst (-1), 1) := by decide +kernel
theorem dX12_foundOf_31 : decode cX12_foundOf 31 = .ok (.ireturn, 1) := by decide +kernel
theorem dX12_delivered_0 : decode cX12_delivered 0 = .ok (.aload_n 0, 1) := by decide +kernel
theorem dX12_delivered_1 : decode cX12_delivered 1 = .ok (.iconst 0, 1) := by decide +kernel
theorem dX12_delivered_2 : decode cX12_delivered 2 = .ok (.putfield 1, 3) := by decide +kernel
theorem dX12_delivered_5 : decode cX12_delivered 5 = .ok (.aload_n 0, 1) := by decide +kernel
theorem dX12_delivered_6 : decode cX12_delivered 6 = .ok (.iload_n 1, 1) := by decide +kernel
theorem dX12_delivered_7 : decode cX12_delivered 7 = .ok (.invokevirtual 204, 3) := by decide +kernel
theorem dX12_delivered_10 : decode cX12_delivered 10 = .ok (.istore_n 3, 1) := by decide +kernel
theorem dX12_delivered_11 : decode cX12_delivered 11 = .ok (.iload_n 3, 1) := by decide +kernel
theorem dX12_delivered_12 : decode cX12_delivered 12 = .ok (.iconst (-1), 1) := by decide +kernel
theorem dX12_delivered_13 : decode cX12_delivered 13 = .ok (.if_icmp .eq 15, 3) := by decide +kernel
theorem dX12_delivered_16 : decode cX12_delivered 16 = .ok (.iload_n 2, 1) := by decide +kernel
theorem dX12_delivered_17 : decode cX12_delivered 17 = .ok (.i2l, 1) := by decide +kernel
theorem dX12_delivered_18 : decode cX12_delivered 18 = .ok (.lconst 0, 1) := by decide +kernel
theorem dX12_delivered_19 : decode cX12_delivered 19 = .ok (.ldc2_w 207, 3) := by decide +kernel
theorem dX12_delivered_22 : decode cX12_delivered 22 = .ok (.invokestatic 77, 3) := by decide +kernel
theorem dX12_delivered_25 : decode cX12_delivered 25 = .ok (.ifCond .ne 6, 3) := by decide +kernel
theorem dX12_delivered_28 : decode cX12_delivered 28 = .ok (.bipush (-2), 2) := by decide +kernel
theorem dX12_delivered_30 : decode cX12_delivered 30 = .ok (.ireturn, 1) := by decide +kernel
theorem dX12_delivered_31 : decode cX12_delivered 31 = .ok (.iload_n 2, 1) := by decide +kernel
theorem dX12_delivered_32 : decode cX12_delivered 32 = .ok (.iconst 3, 1) := by decide +kernel
theorem dX12_delivered_33 : decode cX12_delivered 33 = .ok (.if_icmp .ne 11, 3) := by decide +kernel
theorem dX12_delivered_36 : decode cX12_delivered 36 = .ok (.aload_n 0, 1) := by decide +kernel
theorem dX12_delivered_37 : decode cX12_delivered 37 = .ok (.iload_n 3, 1) := by decide +kernel
theorem dX12_delivered_38 : decode cX12_delivered 38 = .ok (.invokevirtual 170, 3) := by decide +kernel
theorem dX12_delivered_41 : decode cX12_delivered 41 = .ok (.goto 11, 3) := by decide +kernel
theorem dX12_delivered_44 : decode cX12_delivered 44 = .ok (.aload_n 0, 1) := by decide +kernel
theorem dX12_delivered_45 : decode cX12_delivered 45 = .ok (.getfield 32, 3) := by decide +kernel
theorem dX12_delivered_48 : decode cX12_delivered 48 = .ok (.iload_n 3, 1) := by decide +kernel
theorem dX12_delivered_49 : decode cX12_delivered 49 = .ok (.iload_n 2, 1) := by decide +kernel
theorem dX12_delivered_50 : decode cX12_delivered 50 = .ok (.iadd, 1) := by decide +kernel
theorem dX12_delivered_51 : decode cX12_delivered 51 = .ok (.iaload, 1) := by decide +kernel
theorem dX12_delivered_52 : decode cX12_delivered 52 = .ok (.ireturn, 1) := by decide +kernel
theorem dX12_field_0 : decode cX12_field 0 = .ok (.aload_n 0, 1) := by decide +kernel
theorem dX12_field_1 : decode cX12_field 1 = .ok (.iconst 0, 1) := by decide +kernel
theorem dX12_field_2 : decode cX12_field 2 = .ok (.putfield 1, 3) := by decide +kernel
theorem dX12_field_5 : decode cX12_field 5 = .ok (.aload_n 0, 1) := by decide +kernel
theorem dX12_field_6 : decode cX12_field 6 = .ok (.iload_n 1, 1) := by decide +kernel
theorem dX12_field_7 : decode cX12_field 7 = .ok (.invokevirtual 204, 3) := by decide +kernel
theorem dX12_field_10 : decode cX12_field 10 = .ok (.istore_n 3, 1) := by decide +kernel
theorem dX12_field_11 : decode cX12_field 11 = .ok (.iload_n 3, 1) := by decide +kernel
theorem dX12_field_12 : decode cX12_field 12 = .ok (.iconst (-1), 1) := by decide +kernel
theorem dX12_field_13 : decode cX12_field 13 = .ok (.if_icmp .ne 6, 3) := by decide +kernel
theorem dX12_field_16 : decode cX12_field 16 = .ok (.bipush (-2), 2) := by decide +kernel
theorem dX12_field_18 : decode cX12_field 18 = .ok (.ireturn, 1) := by decide +kernel
theorem dX12_field_19 : decode cX12_field 19 = .ok (.iload_n 2, 1) := by decide +kernel
theorem dX12_field_20 : decode cX12_field 20 = .ok (.tableswitch 93 0 4 #[36, 46, 60, 72, 84], 36) := by decide +kernel
theorem dX12_field_56 : decode cX12_field 56 = .ok (.aload_n 0, 1) := by decide +kernel
theorem dX12_field_57 : decode cX12_field 57 = .ok (.getfield 32, 3) := by decide +kernel
theorem dX12_field_60 : decode cX12_field 60 = .ok (.iload_n 3, 1) := by decide +kernel
theorem dX12_field_61 : decode cX12_field 61 = .ok (.iaload, 1) := by decide +kernel
theorem dX12_field_62 : decode cX12_field 62 = .ok (.bipush 28, 2) := by decide +kernel
theorem dX12_field_64 : decode cX12_field 64 = .ok (.iushr, 1) := by decide +kernel
theorem dX12_field_65 : decode cX12_field 65 = .ok (.ireturn, 1) := by decide +kernel
theorem dX12_field_66 : decode cX12_field 66 = .ok (.aload_n 0, 1) := by decide +kernel
theorem dX12_field_67 : decode cX12_field 67 = .ok (.getfield 32, 3) := by decide +kernel
theorem dX12_field_70 : decode cX12_field 70 = .ok (.iload_n 3, 1) := by decide +kernel
theorem dX12_field_71 : decode cX12_field 71 = .ok (.iaload, 1) := by decide +kernel
theorem dX12_field_72 : decode cX12_field 72 = .ok (.bipush 20, 2) := by decide +kernel
theorem dX12_field_74 : decode cX12_field 74 = .ok (.iushr, 1) := by decide +kernel
theorem dX12_field_75 : decode cX12_field 75 = .ok (.sipush 255, 3) := by decide +kernel
theorem dX12_field_78 : decode cX12_field 78 = .ok (.iand, 1) := by decide +kernel
theorem dX12_field_79 : decode cX12_field 79 = .ok (.ireturn, 1) := by decide +kernel
theorem dX12_field_80 : decode cX12_field 80 = .ok (.aload_n 0, 1) := by decide +kernel
theorem dX12_field_81 : decode cX12_field 81 = .ok (.getfield 32, 3) := by decide +kernel
theorem dX12_field_84 : decode cX12_field 84 = .ok (.iload_n 3, 1) := by decide +kernel
theorem dX12_field_85 : decode cX12_field 85 = .ok (.iaload, 1) := by decide +kernel
theorem dX12_field_86 : decode cX12_field 86 = .ok (.iconst 4, 1) := by decide +kernel
theorem dX12_field_87 : decode cX12_field 87 = .ok (.iushr, 1) := by decide +kernel
theorem dX12_field_88 : decode cX12_field 88 = .ok (.ldc 209, 2) := by decide +kernel
theorem dX12_field_90 : decode cX12_field 90 = .ok (.iand, 1) := by decide +kernel
theorem dX12_field_91 : decode cX12_field 91 = .ok (.ireturn, 1) := by decide +kernel
theorem dX12_field_92 : decode cX12_field 92 = .ok (.aload_n 0, 1) := by decide +kernel
theorem dX12_field_93 : decode cX12_field 93 = .ok (.getfield 32, 3) := by decide +kernel
theorem dX12_field_96 : decode cX12_field 96 = .ok (.iload_n 3, 1) := by decide +kernel
theorem dX12_field_97 : decode cX12_field 97 = .ok (.iaload, 1) := by decide +kernel
theorem dX12_field_98 : decode cX12_field 98 = .ok (.iconst 1, 1) := by decide +kernel
theorem dX12_field_99 : decode cX12_field 99 = .ok (.iushr, 1) := by decide +kernel
theorem dX12_field_100 : decode cX12_field 100 = .ok (.bipush 7, 2) := by decide +kernel
theorem dX12_field_102 : decode cX12_field 102 = .ok (.iand, 1) := by decide +kernel
theorem dX12_field_103 : decode cX12_field 103 = .ok (.ireturn, 1) := by decide +kernel
theorem dX12_field_104 : decode cX12_field 104 = .ok (.aload_n 0, 1) := by decide +kernel
theorem dX12_field_105 : decode cX12_field 105 = .ok (.getfield 32, 3) := by decide +kernel
theorem dX12_field_108 : decode cX12_field 108 = .ok (.iload_n 3, 1) := by decide +kernel
theorem dX12_field_109 : decode cX12_field 109 = .ok (.iaload, 1) := by decide +kernel
theorem dX12_field_110 : decode cX12_field 110 = .ok (.iconst 1, 1) := by decide +kernel
theorem dX12_field_111 : decode cX12_field 111 = .ok (.iand, 1) := by decide +kernel
theorem dX12_field_112 : decode cX12_field 112 = .ok (.ireturn, 1) := by decide +kernel
theorem dX12_field_113 : decode cX12_field 113 = .ok (.bipush (-2), 2) := by decide +kernel
theorem dX12_field_115 : decode cX12_field 115 = .ok (.ireturn, 1) := by decide +kernel
theorem dX12_judged_0 : decode cX12_judged 0 = .ok (.aload_n 0, 1) := by decide +kernel
theorem dX12_judged_1 : decode cX12_judged 1 = .ok (.iconst 0, 1) := by decide +kernel
theorem dX12_judged_2 : decode cX12_judged 2 = .ok (.putfield 1, 3) := by decide +kernel
theorem dX12_judged_5 : decode cX12_judged 5 = .ok (.iload_n 1, 1) := by decide +kernel
theorem dX12_judged_6 : decode cX12_judged 6 = .ok (.aload_n 0, 1) := by decide +kernel
theorem dX12_judged_7 : decode cX12_judged 7 = .ok (.getfield 32, 3) := by decide +kernel
theorem dX12_judged_10 : decode cX12_judged 10 = .ok (.bipush 21, 2) := by decide +kernel
theorem dX12_judged_12 : decode cX12_judged 12 = .ok (.iaload, 1) := by decide +kernel
theorem dX12_judged_13 : decode cX12_judged 13 = .ok (.bipush 32, 2) := by decide +kernel
theorem dX12_judged_15 : decode cX12_judged 15 = .ok (.invokestatic 196, 3) := by decide +kernel
theorem dX12_judged_18 : decode cX12_judged 18 = .ok (.ifCond .eq 35, 3) := by decide +kernel
theorem dX12_judged_21 : decode cX12_judged 21 = .ok (.iload_n 2, 1) := by decide +kernel
theorem dX12_judged_22 : decode cX12_judged 22 = .ok (.i2l, 1) := by decide +kernel
theorem dX12_judged_23 : decode cX12_judged 23 = .ok (.lconst 0, 1) := by decide +kernel
theorem dX12_judged_24 : decode cX12_judged 24 = .ok (.ldc2_w 99, 3) := by decide +kernel
theorem dX12_judged_27 : decode cX12_judged 27 = .ok (.invokestatic 77, 3) := by decide +kernel
theorem dX12_judged_30 : decode cX12_judged 30 = .ok (.ifCond .eq 23, 3) := by decide +kernel
theorem dX12_judged_33 : decode cX12_judged 33 = .ok (.aload_n 0, 1) := by decide +kernel
theorem dX12_judged_34 : decode cX12_judged 34 = .ok (.getfield 32, 3) := by decide +kernel
theorem dX12_judged_37 : decode cX12_judged 37 = .ok (.sipush 776, 3) := by decide +kernel
theorem dX12_judged_40 : decode cX12_judged 40 = .ok (.iconst 3, 1) := by decide +kernel
theorem dX12_judged_41 : decode cX12_judged 41 = .ok (.iload_n 1, 1) := by decide +kernel
theorem dX12_judged_42 : decode cX12_judged 42 = .ok (.bipush 32, 2) := by decide +kernel
theorem dX12_judged_44 : decode cX12_judged 44 = .ok (.irem, 1) := by decide +kernel
theorem dX12_judged_45 : decode cX12_judged 45 = .ok (.imul, 1) := by decide +kernel
theorem dX12_judged_46 : decode cX12_judged 46 = .ok (.iadd, 1) := by decide +kernel
theorem dX12_judged_47 : decode cX12_judged 47 = .ok (.iload_n 2, 1) := by decide +kernel
theorem dX12_judged_48 : decode cX12_judged 48 = .ok (.iadd, 1) := by decide +kernel
theorem dX12_judged_49 : decode cX12_judged 49 = .ok (.iaload, 1) := by decide +kernel
theorem dX12_judged_50 : decode cX12_judged 50 = .ok (.goto 5, 3) := by decide +kernel
theorem dX12_judged_53 : decode cX12_judged 53 = .ok (.bipush (-2), 2) := by decide +kernel
theorem dX12_judged_55 : decode cX12_judged 55 = .ok (.ireturn, 1) := by decide +kernel
theorem dX12_load_0 : decode cX12_load 0 = .ok (.aload_n 0, 1) := by decide +kernel
theorem dX12_load_1 : decode cX12_load 1 = .ok (.iconst 0, 1) := by decide +kernel
theorem dX12_load_2 : decode cX12_load 2 = .ok (.putfield 1, 3) := by decide +kernel
theorem dX12_load_5 : decode cX12_load 5 = .ok (.aload_n 0, 1) := by decide +kernel
theorem dX12_load_6 : decode cX12_load 6 = .ok (.iload_n 1, 1) := by decide +kernel
theorem dX12_load_7 : decode cX12_load 7 = .ok (.invokevirtual 204, 3) := by decide +kernel
theorem dX12_load_10 : decode cX12_load 10 = .ok (.istore_n 3, 1) := by decide +kernel
theorem dX12_load_11 : decode cX12_load 11 = .ok (.iload_n 3, 1) := by decide +kernel
theorem dX12_load_12 : decode cX12_load 12 = .ok (.iconst (-1), 1) := by decide +kernel
theorem dX12_load_13 : decode cX12_load 13 = .ok (.if_icmp .ne 6, 3) := by decide +kernel
theorem dX12_load_16 : decode cX12_load 16 = .ok (.bipush (-2), 2) := by decide +kernel
theorem dX12_load_18 : decode cX12_load 18 = .ok (.ireturn, 1) := by decide +kernel
theorem dX12_load_19 : decode cX12_load 19 = .ok (.iload_n 2, 1) := by decide +kernel
theorem dX12_load_20 : decode cX12_load 20 = .ok (.i2l, 1) := by decide +kernel
theorem dX12_load_21 : decode cX12_load 21 = .ok (.lconst 0, 1) := by decide +kernel
theorem dX12_load_22 : decode cX12_load 22 = .ok (.aload_n 0, 1) := by decide +kernel
theorem dX12_load_23 : decode cX12_load 23 = .ok (.getfield 32, 3) := by decide +kernel
theorem dX12_load_26 : decode cX12_load 26 = .ok (.iload_n 3, 1) := by decide +kernel
theorem dX12_load_27 : decode cX12_load 27 = .ok (.iconst 3, 1) := by decide +kernel
theorem dX12_load_28 : decode cX12_load 28 = .ok (.iadd, 1) := by decide +kernel
theorem dX12_load_29 : decode cX12_load 29 = .ok (.iaload, 1) := by decide +kernel
theorem dX12_load_30 : decode cX12_load 30 = .ok (.iconst 1, 1) := by decide +kernel
theorem dX12_load_31 : decode cX12_load 31 = .ok (.isub, 1) := by decide +kernel
theorem dX12_load_32 : decode cX12_load 32 = .ok (.i2l, 1) := by decide +kernel
theorem dX12_load_33 : decode cX12_load 33 = .ok (.invokestatic 77, 3) := by decide +kernel
theorem dX12_load_36 : decode cX12_load 36 = .ok (.ifCond .eq 16, 3) := by decide +kernel
theorem dX12_load_39 : decode cX12_load 39 = .ok (.aload_n 0, 1) := by decide +kernel
theorem dX12_load_40 : decode cX12_load 40 = .ok (.getfield 32, 3) := by decide +kernel
theorem dX12_load_43 : decode cX12_load 43 = .ok (.iload_n 3, 1) := by decide +kernel
theorem dX12_load_44 : decode cX12_load 44 = .ok (.iconst 4, 1) := by decide +kernel
theorem dX12_load_45 : decode cX12_load 45 = .ok (.iadd, 1) := by decide +kernel
theorem dX12_load_46 : decode cX12_load 46 = .ok (.iload_n 2, 1) := by decide +kernel
theorem dX12_load_47 : decode cX12_load 47 = .ok (.iadd, 1) := by decide +kernel
theorem dX12_load_48 : decode cX12_load 48 = .ok (.iaload, 1) := by decide +kernel
theorem dX12_load_49 : decode cX12_load 49 = .ok (.goto 4, 3) := by decide +kernel
theorem dX12_load_52 : decode cX12_load 52 = .ok (.iconst (-1), 1) := by decide +kernel
theorem dX12_load_53 : decode cX12_load 53 = .ok (.ireturn, 1) := by decide +kernel
theorem dX12_turn_0 : decode cX12_turn 0 = .ok (.aload_n 0, 1) := by decide +kernel
theorem dX12_turn_1 : decode cX12_turn 1 = .ok (.iconst 0, 1) := by decide +kernel
theorem dX12_turn_2 : decode cX12_turn 2 = .ok (.putfield 1, 3) := by decide +kernel
theorem dX12_turn_5 : decode cX12_turn 5 = .ok (.iload_n 1, 1) := by decide +kernel
theorem dX12_turn_6 : decode cX12_turn 6 = .ok (.aload_n 0, 1) := by decide +kernel
theorem dX12_turn_7 : decode cX12_turn 7 = .ok (.getfield 32, 3) := by decide +kernel
theorem dX12_turn_10 : decode cX12_turn 10 = .ok (.bipush 20, 2) := by decide +kernel
theorem dX12_turn_12 : decode cX12_turn 12 = .ok (.iaload, 1) := by decide +kernel
theorem dX12_turn_13 : decode cX12_turn 13 = .ok (.bipush 24, 2) := by decide +kernel
theorem dX12_turn_15 : decode cX12_turn 15 = .ok (.invokestatic 196, 3) := by decide +kernel
theorem dX12_turn_18 : decode cX12_turn 18 = .ok (.ifCond .eq 35, 3) := by decide +kernel
theorem dX12_turn_21 : decode cX12_turn 21 = .ok (.iload_n 2, 1) := by decide +kernel
theorem dX12_turn_22 : decode cX12_turn 22 = .ok (.i2l, 1) := by decide +kernel
theorem dX12_turn_23 : decode cX12_turn 23 = .ok (.lconst 0, 1) := by decide +kernel
theorem dX12_turn_24 : decode cX12_turn 24 = .ok (.ldc2_w 99, 3) := by decide +kernel
theorem dX12_turn_27 : decode cX12_turn 27 = .ok (.invokestatic 77, 3) := by decide +kernel
theorem dX12_turn_30 : decode cX12_turn 30 = .ok (.ifCond .eq 23, 3) := by decide +kernel
theorem dX12_turn_33 : decode cX12_turn 33 = .ok (.aload_n 0, 1) := by decide +kernel
theorem dX12_turn_34 : decode cX12_turn 34 = .ok (.getfield 32, 3) := by decide +kernel
theorem dX12_turn_37 : decode cX12_turn 37 = .ok (.sipush 704, 3) := by decide +kernel
theorem dX12_turn_40 : decode cX12_turn 40 = .ok (.iconst 3, 1) := by decide +kernel
theorem dX12_turn_41 : decode cX12_turn 41 = .ok (.iload_n 1, 1) := by decide +kernel
theorem dX12_turn_42 : decode cX12_turn 42 = .ok (.bipush 24, 2) := by decide +kernel
theorem dX12_turn_44 : decode cX12_turn 44 = .ok (.irem, 1) := by decide +kernel
theorem dX12_turn_45 : decode cX12_turn 45 = .ok (.imul, 1) := by decide +kernel
theorem dX12_turn_46 : decode cX12_turn 46 = .ok (.iadd, 1) := by decide +kernel
theorem dX12_turn_47 : decode cX12_turn 47 = .ok (.iload_n 2, 1) := by decide +kernel
theorem dX12_turn_48 : decode cX12_turn 48 = .ok (.iadd, 1) := by decide +kernel
theorem dX12_turn_49 : decode cX12_turn 49 = .ok (.iaload, 1) := by decide +kernel
theorem dX12_turn_50 : decode cX12_turn 50 = .ok (.goto 5, 3) := by decide +kernel
theorem dX12_turn_53 : decode cX12_turn 53 = .ok (.bipush (-2), 2) := by decide +kernel
theorem dX12_turn_55 : decode cX12_turn 55 = .ok (.ireturn, 1) := by decide +kernel
theorem dX12_lost_0 : decode cX12_lost 0 = .ok (.aload_n 0, 1) := by decide +kernel
theorem dX12_lost_1 : decode cX12_lost 1 = .ok (.iconst 0, 1) := by decide +kernel
theorem dX12_lost_2 : decode cX12_lost 2 = .ok (.putfield 1, 3) := by decide +kernel
theorem dX12_lost_5 : decode cX12_lost 5 = .ok (.iconst 0, 1) := by decide +kernel
theorem dX12_lost_6 : decode cX12_lost 6 = .ok (.istore_n 1, 1) := by decide +kernel
theorem dX12_lost_7 : decode cX12_lost 7 = .ok (.iload_n 1, 1) := by decide +kernel
theorem dX12_lost_8 : decode cX12_lost 8 = .ok (.bipush 64, 2) := by decide +kernel
theorem dX12_lost_10 : decode cX12_lost 10 = .ok (.if_icmp .ge 16, 3) := by decide +kernel
theorem dX12_lost_13 : decode cX12_lost 13 = .ok (.aload_n 0, 1) := by decide +kernel
theorem dX12_lost_14 : decode cX12_lost 14 = .ok (.getfield 44, 3) := by decide +kernel
theorem dX12_lost_17 : decode cX12_lost 17 = .ok (.iload_n 1, 1) := by decide +kernel
theorem dX12_lost_18 : decode cX12_lost 18 = .ok (.iconst 0, 1) := by decide +kernel
theorem dX12_lost_19 : decode cX12_lost 19 = .ok (.bastore, 1) := by decide +kernel
theorem dX12_lost_20 : decode cX12_lost 20 = .ok (.iinc 1 1, 3) := by decide +kernel
theorem dX12_lost_23 : decode cX12_lost 23 = .ok (.goto (-16), 3) := by decide +kernel
theorem dX12_lost_26 : decode cX12_lost 26 = .ok (.aload_n 0, 1) := by decide +kernel
theorem dX12_lost_27 : decode cX12_lost 27 = .ok (.getfield 109, 3) := by decide +kernel
theorem dX12_lost_30 : decode cX12_lost 30 = .ok (.istore_n 1, 1) := by decide +kernel
theorem dX12_lost_31 : decode cX12_lost 31 = .ok (.iconst 0, 1) := by decide +kernel
theorem dX12_lost_32 : decode cX12_lost 32 = .ok (.istore_n 2, 1) := by decide +kernel
theorem dX12_lost_33 : decode cX12_lost 33 = .ok (.iload_n 2, 1) := by decide +kernel
theorem dX12_lost_34 : decode cX12_lost 34 = .ok (.bipush 12, 2) := by decide +kernel
theorem dX12_lost_36 : decode cX12_lost 36 = .ok (.if_icmp .ge 71, 3) := by decide +kernel
theorem dX12_lost_39 : decode cX12_lost 39 = .ok (.aload_n 0, 1) := by decide +kernel
theorem dX12_lost_40 : decode cX12_lost 40 = .ok (.aload_n 0, 1) := by decide +kernel
theorem dX12_lost_41 : decode cX12_lost 41 = .ok (.getfield 32, 3) := by decide +kernel
theorem dX12_lost_44 : decode cX12_lost 44 = .ok (.bipush 16, 2) := by decide +kernel
theorem dX12_lost_46 : decode cX12_lost 46 = .ok (.iaload, 1) := by decide +kernel
theorem dX12_lost_47 : decode cX12_lost 47 = .ok (.iconst 1, 1) := by decide +kernel
theorem dX12_lost_48 : decode cX12_lost 48 = .ok (.isub, 1) := by decide +kernel
theorem dX12_lost_49 : decode cX12_lost 49 = .ok (.iload_n 2, 1) := by decide +kernel
theorem dX12_lost_50 : decode cX12_lost 50 = .ok (.isub, 1) := by decide +kernel
theorem dX12_lost_51 : decode cX12_lost 51 = .ok (.invokevirtual 204, 3) := by decide +kernel
theorem dX12_lost_54 : decode cX12_lost 54 = .ok (.istore_n 3, 1) := by decide +kernel
theorem dX12_lost_55 : decode cX12_lost 55 = .ok (.iload_n 3, 1) := by decide +kernel
theorem dX12_lost_56 : decode cX12_lost 56 = .ok (.iconst (-1), 1) := by decide +kernel
theorem dX12_lost_57 : decode cX12_lost 57 = .ok (.if_icmp .ne 7, 3) := by decide +kernel
theorem dX12_lost_60 : decode cX12_lost 60 = .ok (.iconst (-1), 1) := by decide +kernel
theorem dX12_lost_61 : decode cX12_lost 61 = .ok (.goto 8, 3) := by decide +kernel
theorem dX12_lost_64 : decode cX12_lost 64 = .ok (.aload_n 0, 1) := by decide +kernel
theorem dX12_lost_65 : decode cX12_lost 65 = .ok (.iload_n 3, 1) := by decide +kernel
theorem dX12_lost_66 : decode cX12_lost 66 = .ok (.invokevirtual 170, 3) := by decide +kernel
theorem dX12_lost_69 : decode cX12_lost 69 = .ok (.istore 4, 2) := by decide +kernel
theorem dX12_lost_71 : decode cX12_lost 71 = .ok (.iload 4, 2) := by decide +kernel
theorem dX12_lost_73 : decode cX12_lost 73 = .ok (.iconst (-1), 1) := by decide +kernel
theorem dX12_lost_74 : decode cX12_lost 74 = .ok (.if_icmp .eq 27, 3) := by decide +kernel
theorem dX12_lost_77 : decode cX12_lost 77 = .ok (.aload_n 0, 1) := by decide +kernel
theorem dX12_lost_78 : decode cX12_lost 78 = .ok (.getfield 44, 3) := by decide +kernel
theorem dX12_lost_81 : decode cX12_lost 81 = .ok (.iload 4, 2) := by decide +kernel
theorem dX12_lost_83 : decode cX12_lost 83 = .ok (.baload, 1) := by decide +kernel
theorem dX12_lost_84 : decode cX12_lost 84 = .ok (.ifCond .eq 6, 3) := by decide +kernel
theorem dX12_lost_87 : decode cX12_lost 87 = .ok (.goto 14, 3) := by decide +kernel
theorem dX12_lost_90 : decode cX12_lost 90 = .ok (.aload_n 0, 1) := by decide +kernel
theorem dX12_lost_91 : decode cX12_lost 91 = .ok (.getfield 44, 3) := by decide +kernel
theorem dX12_lost_94 : decode cX12_lost 94 = .ok (.iload 4, 2) := by decide +kernel
theorem dX12_lost_96 : decode cX12_lost 96 = .ok (.iconst 1, 1) := by decide +kernel
theorem dX12_lost_97 : decode cX12_lost 97 = .ok (.bastore, 1) := by decide +kernel
theorem dX12_lost_98 : decode cX12_lost 98 = .ok (.iinc 1 (-1), 3) := by decide +kernel
theorem dX12_lost_101 : decode cX12_lost 101 = .ok (.iinc 2 1, 3) := by decide +kernel
theorem dX12_lost_104 : decode cX12_lost 104 = .ok (.goto (-71), 3) := by decide +kernel
theorem dX12_lost_107 : decode cX12_lost 107 = .ok (.iload_n 1, 1) := by decide +kernel
theorem dX12_lost_108 : decode cX12_lost 108 = .ok (.ireturn, 1) := by decide +kernel
theorem dX12_opens_0 : decode cX12_opens 0 = .ok (.aload_n 0, 1) := by decide +kernel
theorem dX12_opens_1 : decode cX12_opens 1 = .ok (.getfield 32, 3) := by decide +kernel
theorem dX12_opens_4 : decode cX12_opens 4 = .ok (.iconst 0, 1) := by decide +kernel
theorem dX12_opens_5 : decode cX12_opens 5 = .ok (.aload_n 0, 1) := by decide +kernel
theorem dX12_opens_6 : decode cX12_opens 6 = .ok (.getfield 35, 3) := by decide +kernel
theorem dX12_opens_9 : decode cX12_opens 9 = .ok (.iconst 0, 1) := by decide +kernel
theorem dX12_opens_10 : decode cX12_opens 10 = .ok (.sipush 875, 3) := by decide +kernel
theorem dX12_opens_13 : decode cX12_opens 13 = .ok (.invokestatic 166, 3) := by decide +kernel
theorem dX12_opens_16 : decode cX12_opens 16 = .ok (.return_, 1) := by decide +kernel
theorem dX12_closes_0 : decode cX12_closes 0 = .ok (.aload_n 0, 1) := by decide +kernel
theorem dX12_closes_1 : decode cX12_closes 1 = .ok (.getfield 35, 3) := by decide +kernel
theorem dX12_closes_4 : decode cX12_closes 4 = .ok (.iconst 0, 1) := by decide +kernel
theorem dX12_closes_5 : decode cX12_closes 5 = .ok (.aload_n 0, 1) := by decide +kernel
theorem dX12_closes_6 : decode cX12_closes 6 = .ok (.getfield 32, 3) := by decide +kernel
theorem dX12_closes_9 : decode cX12_closes 9 = .ok (.iconst 0, 1) := by decide +kernel
theorem dX12_closes_10 : decode cX12_closes 10 = .ok (.sipush 875, 3) := by decide +kernel
theorem dX12_closes_13 : decode cX12_closes 13 = .ok (.invokestatic 166, 3) := by decide +kernel
theorem dX12_closes_16 : decode cX12_closes 16 = .ok (.return_, 1) := by decide +kernel
theorem dX12_look_0 : decode cX12_look 0 = .ok (.aload_n 0, 1) := by decide +kernel
theorem dX12_look_1 : decode cX12_look 1 = .ok (.iconst 0, 1) := by decide +kernel
theorem dX12_look_2 : decode cX12_look 2 = .ok (.putfield 1, 3) := by decide +kernel
theorem dX12_look_5 : decode cX12_look 5 = .ok (.iload_n 1, 1) := by decide +kernel
theorem dX12_look_6 : decode cX12_look 6 = .ok (.i2l, 1) := by decide +kernel
theorem dX12_look_7 : decode cX12_look 7 = .ok (.lconst 0, 1) := by decide +kernel
theorem dX12_look_8 : decode cX12_look 8 = .ok (.ldc2_w 186, 3) := by decide +kernel
theorem dX12_look_11 : decode cX12_look 11 = .ok (.invokestatic 77, 3) := by decide +kernel
theorem dX12_look_14 : decode cX12_look 14 = .ok (.ifCond .ne 6, 3) := by decide +kernel
theorem dX12_look_17 : decode cX12_look 17 = .ok (.bipush (-3), 2) := by decide +kernel
theorem dX12_look_19 : decode cX12_look 19 = .ok (.ireturn, 1) := by decide +kernel
theorem dX12_look_20 : decode cX12_look 20 = .ok (.aload_n 0, 1) := by decide +kernel
theorem dX12_look_21 : decode cX12_look 21 = .ok (.invokevirtual 210, 3) := by decide +kernel
theorem dX12_look_24 : decode cX12_look 24 = .ok (.aload_n 0, 1) := by decide +kernel
theorem dX12_look_25 : decode cX12_look 25 = .ok (.iload_n 1, 1) := by decide +kernel
theorem dX12_look_26 : decode cX12_look 26 = .ok (.invokevirtual 188, 3) := by decide +kernel
theorem dX12_look_29 : decode cX12_look 29 = .ok (.aload_n 0, 1) := by decide +kernel
theorem dX12_look_30 : decode cX12_look 30 = .ok (.getfield 32, 3) := by decide +kernel
theorem dX12_look_33 : decode cX12_look 33 = .ok (.iconst 1, 1) := by decide +kernel
theorem dX12_look_34 : decode cX12_look 34 = .ok (.iaload, 1) := by decide +kernel
theorem dX12_look_35 : decode cX12_look 35 = .ok (.istore_n 2, 1) := by decide +kernel
theorem dX12_look_36 : decode cX12_look 36 = .ok (.aload_n 0, 1) := by decide +kernel
theorem dX12_look_37 : decode cX12_look 37 = .ok (.invokevirtual 213, 3) := by decide +kernel
theorem dX12_look_40 : decode cX12_look 40 = .ok (.iload_n 2, 1) := by decide +kernel
theorem dX12_look_41 : decode cX12_look 41 = .ok (.ireturn, 1) := by decide +kernel
theorem dX12_until_0 : decode cX12_until 0 = .ok (.aload_n 0, 1) := by decide +kernel
theorem dX12_until_1 : decode cX12_until 1 = .ok (.iconst 0, 1) := by decide +kernel
theorem dX12_until_2 : decode cX12_until 2 = .ok (.putfield 1, 3) := by decide +kernel
theorem dX12_until_5 : decode cX12_until 5 = .ok (.iload_n 1, 1) := by decide +kernel
theorem dX12_until_6 : decode cX12_until 6 = .ok (.i2l, 1) := by decide +kernel
theorem dX12_until_7 : decode cX12_until 7 = .ok (.lconst 0, 1) := by decide +kernel
theorem dX12_until_8 : decode cX12_until 8 = .ok (.ldc2_w 99, 3) := by decide +kernel
theorem dX12_until_11 : decode cX12_until 11 = .ok (.invokestatic 77, 3) := by decide +kernel
theorem dX12_until_14 : decode cX12_until 14 = .ok (.ifCond .ne 6, 3) := by decide +kernel
theorem dX12_until_17 : decode cX12_until 17 = .ok (.bipush (-3), 2) := by decide +kernel
theorem dX12_until_19 : decode cX12_until 19 = .ok (.ireturn, 1) := by decide +kernel
theorem dX12_until_20 : decode cX12_until 20 = .ok (.aload_n 0, 1) := by decide +kernel
theorem dX12_until_21 : decode cX12_until 21 = .ok (.invokevirtual 210, 3) := by decide +kernel
theorem dX12_until_24 : decode cX12_until 24 = .ok (.iconst 0, 1) := by decide +kernel
theorem dX12_until_25 : decode cX12_until 25 = .ok (.istore_n 2, 1) := by decide +kernel
theorem dX12_until_26 : decode cX12_until 26 = .ok (.aload_n 0, 1) := by decide +kernel
theorem dX12_until_27 : decode cX12_until 27 = .ok (.getfield 32, 3) := by decide +kernel
theorem dX12_until_30 : decode cX12_until 30 = .ok (.iconst 1, 1) := by decide +kernel
theorem dX12_until_31 : decode cX12_until 31 = .ok (.iaload, 1) := by decide +kernel
theorem dX12_until_32 : decode cX12_until 32 = .ok (.iload_n 1, 1) := by decide +kernel
theorem dX12_until_33 : decode cX12_until 33 = .ok (.if_icmp .eq 26, 3) := by decide +kernel
theorem dX12_until_36 : decode cX12_until 36 = .ok (.aload_n 0, 1) := by decide +kernel
theorem dX12_until_37 : decode cX12_until 37 = .ok (.getfield 32, 3) := by decide +kernel
theorem dX12_until_40 : decode cX12_until 40 = .ok (.iconst 0, 1) := by decide +kernel
theorem dX12_until_41 : decode cX12_until 41 = .ok (.iaload, 1) := by decide +kernel
theorem dX12_until_42 : decode cX12_until 42 = .ok (.aload_n 0, 1) := by decide +kernel
theorem dX12_until_43 : decode cX12_until 43 = .ok (.getfield 64, 3) := by decide +kernel
theorem dX12_until_46 : decode cX12_until 46 = .ok (.if_icmp .ge 13, 3) := by decide +kernel
theorem dX12_until_49 : decode cX12_until 49 = .ok (.aload_n 0, 1) := by decide +kernel
theorem dX12_until_50 : decode cX12_until 50 = .ok (.invokevirtual 183, 3) := by decide +kernel
theorem dX12_until_53 : decode cX12_until 53 = .ok (.iinc 2 1, 3) := by decide +kernel
theorem dX12_until_56 : decode cX12_until 56 = .ok (.goto (-30), 3) := by decide +kernel
theorem dX12_until_59 : decode cX12_until 59 = .ok (.aload_n 0, 1) := by decide +kernel
theorem dX12_until_60 : decode cX12_until 60 = .ok (.getfield 32, 3) := by decide +kernel
theorem dX12_until_63 : decode cX12_until 63 = .ok (.iconst 1, 1) := by decide +kernel
theorem dX12_until_64 : decode cX12_until 64 = .ok (.iaload, 1) := by decide +kernel
theorem dX12_until_65 : decode cX12_until 65 = .ok (.iload_n 1, 1) := by decide +kernel
theorem dX12_until_66 : decode cX12_until 66 = .ok (.if_icmp .ne 7, 3) := by decide +kernel
theorem dX12_until_69 : decode cX12_until 69 = .ok (.iconst 1, 1) := by decide +kernel
theorem dX12_until_70 : decode cX12_until 70 = .ok (.goto 4, 3) := by decide +kernel
theorem dX12_until_73 : decode cX12_until 73 = .ok (.iconst 0, 1) := by decide +kernel
theorem dX12_until_74 : decode cX12_until 74 = .ok (.istore_n 3, 1) := by decide +kernel
theorem dX12_until_75 : decode cX12_until 75 = .ok (.aload_n 0, 1) := by decide +kernel
theorem dX12_until_76 : decode cX12_until 76 = .ok (.invokevirtual 213, 3) := by decide +kernel
theorem dX12_until_79 : decode cX12_until 79 = .ok (.iload_n 3, 1) := by decide +kernel
theorem dX12_until_80 : decode cX12_until 80 = .ok (.ifCond .eq 7, 3) := by decide +kernel
theorem dX12_until_83 : decode cX12_until 83 = .ok (.iload_n 2, 1) := by decide +kernel
theorem dX12_until_84 : decode cX12_until 84 = .ok (.goto 4, 3) := by decide +kernel
theorem dX12_until_87 : decode cX12_until 87 = .ok (.iconst (-1), 1) := by decide +kernel
theorem dX12_until_88 : decode cX12_until 88 = .ok (.ireturn, 1) := by decide +kernel
theorem dX12_would_0 : decode cX12_would 0 = .ok (.aload_n 0, 1) := by decide +kernel
theorem dX12_would_1 : decode cX12_would 1 = .ok (.iconst 0, 1) := by decide +kernel
theorem dX12_would_2 : decode cX12_would 2 = .ok (.putfield 1, 3) := by decide +kernel
theorem dX12_would_5 : decode cX12_would 5 = .ok (.aload_n 0, 1) := by decide +kernel
theorem dX12_would_6 : decode cX12_would 6 = .ok (.iload_n 1, 1) := by decide +kernel
theorem dX12_would_7 : decode cX12_would 7 = .ok (.invokevirtual 131, 3) := by decide +kernel
theorem dX12_would_10 : decode cX12_would 10 = .ok (.ifCond .eq 15, 3) := by decide +kernel
theorem dX12_would_13 : decode cX12_would 13 = .ok (.iload_n 2, 1) := by decide +kernel
theorem dX12_would_14 : decode cX12_would 14 = .ok (.i2l, 1) := by decide +kernel
theorem dX12_would_15 : decode cX12_would 15 = .ok (.lconst 0, 1) := by decide +kernel
theorem dX12_would_16 : decode cX12_would 16 = .ok (.ldc2_w 216, 3) := by decide +kernel
theorem dX12_would_19 : decode cX12_would 19 = .ok (.invokestatic 77, 3) := by decide +kernel
theorem dX12_would_22 : decode cX12_would 22 = .ok (.ifCond .ne 6, 3) := by decide +kernel
theorem dX12_would_25 : decode cX12_would 25 = .ok (.bipush (-2), 2) := by decide +kernel
theorem dX12_would_27 : decode cX12_would 27 = .ok (.ireturn, 1) := by decide +kernel
theorem dX12_would_28 : decode cX12_would 28 = .ok (.iload_n 1, 1) := by decide +kernel
theorem dX12_would_29 : decode cX12_would 29 = .ok (.aload_n 0, 1) := by decide +kernel
theorem dX12_would_30 : decode cX12_would 30 = .ok (.getfield 32, 3) := by decide +kernel
theorem dX12_would_33 : decode cX12_would 33 = .ok (.iconst 0, 1) := by decide +kernel
theorem dX12_would_34 : decode cX12_would 34 = .ok (.iaload, 1) := by decide +kernel
theorem dX12_would_35 : decode cX12_would 35 = .ok (.if_icmp .ge 6, 3) := by decide +kernel
theorem dX12_would_38 : decode cX12_would 38 = .ok (.bipush (-5), 2) := by decide +kernel
theorem dX12_would_40 : decode cX12_would 40 = .ok (.ireturn, 1) := by decide +kernel
theorem dX12_would_41 : decode cX12_would 41 = .ok (.aload_n 0, 1) := by decide +kernel
theorem dX12_would_42 : decode cX12_would 42 = .ok (.invokevirtual 210, 3) := by decide +kernel
theorem dX12_would_45 : decode cX12_would 45 = .ok (.aload_n 0, 1) := by decide +kernel
theorem dX12_would_46 : decode cX12_would 46 = .ok (.getfield 23, 3) := by decide +kernel
theorem dX12_would_49 : decode cX12_would 49 = .ok (.iload_n 1, 1) := by decide +kernel
theorem dX12_would_50 : decode cX12_would 50 = .ok (.iconst 1, 1) := by decide +kernel
theorem dX12_would_51 : decode cX12_would 51 = .ok (.aload_n 0, 1) := by decide +kernel
theorem dX12_would_52 : decode cX12_would 52 = .ok (.getfield 23, 3) := by decide +kernel
theorem dX12_would_55 : decode cX12_would 55 = .ok (.iload_n 1, 1) := by decide +kernel
theorem dX12_would_56 : decode cX12_would 56 = .ok (.iaload, 1) := by decide +kernel
theorem dX12_would_57 : decode cX12_would 57 = .ok (.isub, 1) := by decide +kernel
theorem dX12_would_58 : decode cX12_would 58 = .ok (.iastore, 1) := by decide +kernel
theorem dX12_would_59 : decode cX12_would 59 = .ok (.aload_n 0, 1) := by decide +kernel
theorem dX12_would_60 : decode cX12_would 60 = .ok (.sipush 9600, 3) := by decide +kernel
theorem dX12_would_63 : decode cX12_would 63 = .ok (.invokevirtual 188, 3) := by decide +kernel
theorem dX12_would_66 : decode cX12_would 66 = .ok (.aload_n 0, 1) := by decide +kernel
theorem dX12_would_67 : decode cX12_would 67 = .ok (.getfield 23, 3) := by decide +kernel
theorem dX12_would_70 : decode cX12_would 70 = .ok (.iload_n 1, 1) := by decide +kernel
theorem dX12_would_71 : decode cX12_would 71 = .ok (.iconst 1, 1) := by decide +kernel
theorem dX12_would_72 : decode cX12_would 72 = .ok (.aload_n 0, 1) := by decide +kernel
theorem dX12_would_73 : decode cX12_would 73 = .ok (.getfield 23, 3) := by decide +kernel
theorem dX12_would_76 : decode cX12_would 76 = .ok (.iload_n 1, 1) := by decide +kernel
theorem dX12_would_77 : decode cX12_would 77 = .ok (.iaload, 1) := by decide +kernel
theorem dX12_would_78 : decode cX12_would 78 = .ok (.isub, 1) := by decide +kernel
theorem dX12_would_79 : decode cX12_would 79 = .ok (.iastore, 1) := by decide +kernel
theorem dX12_would_80 : decode cX12_would 80 = .ok (.iload_n 2, 1) := by decide +kernel
theorem dX12_would_81 : decode cX12_would 81 = .ok (.ifCond .ne 13, 3) := by decide +kernel
theorem dX12_would_84 : decode cX12_would 84 = .ok (.aload_n 0, 1) := by decide +kernel
theorem dX12_would_85 : decode cX12_would 85 = .ok (.getfield 32, 3) := by decide +kernel
theorem dX12_would_88 : decode cX12_would 88 = .ok (.bipush 16, 2) := by decide +kernel
theorem dX12_would_90 : decode cX12_would 90 = .ok (.iaload, 1) := by decide +kernel
theorem dX12_would_91 : decode cX12_would 91 = .ok (.goto 69, 3) := by decide +kernel
theorem dX12_would_94 : decode cX12_would 94 = .ok (.iload_n 2, 1) := by decide +kernel
theorem dX12_would_95 : decode cX12_would 95 = .ok (.iconst 1, 1) := by decide +kernel
theorem dX12_would_96 : decode cX12_would 96 = .ok (.if_icmp .ne 13, 3) := by decide +kernel
theorem dX12_would_99 : decode cX12_would 99 = .ok (.aload_n 0, 1) := by decide +kernel
theorem dX12_would_100 : decode cX12_would 100 = .ok (.getfield 32, 3) := by decide +kernel
theorem dX12_would_103 : decode cX12_would 103 = .ok (.bipush 14, 2) := by decide +kernel
theorem dX12_would_105 : decode cX12_would 105 = .ok (.iaload, 1) := by decide +kernel
theorem dX12_would_106 : decode cX12_would 106 = .ok (.goto 54, 3) := by decide +kernel
theorem dX12_would_109 : decode cX12_would 109 = .ok (.iload_n 2, 1) := by decide +kernel
theorem dX12_would_110 : decode cX12_would 110 = .ok (.iconst 2, 1) := by decide +kernel
theorem dX12_would_111 : decode cX12_would 111 = .ok (.if_icmp .ne 13, 3) := by decide +kernel
theorem dX12_would_114 : decode cX12_would 114 = .ok (.aload_n 0, 1) := by decide +kernel
theorem dX12_would_115 : decode cX12_would 115 = .ok (.getfield 32, 3) := by decide +kernel
theorem dX12_would_118 : decode cX12_would 118 = .ok (.bipush 15, 2) := by decide +kernel
theorem dX12_would_120 : decode cX12_would 120 = .ok (.iaload, 1) := by decide +kernel
theorem dX12_would_121 : decode cX12_would 121 = .ok (.goto 39, 3) := by decide +kernel
theorem dX12_would_124 : decode cX12_would 124 = .ok (.iload_n 2, 1) := by decide +kernel
theorem dX12_would_125 : decode cX12_would 125 = .ok (.iconst 3, 1) := by decide +kernel
theorem dX12_would_126 : decode cX12_would 126 = .ok (.if_icmp .ne 13, 3) := by decide +kernel
theorem dX12_would_129 : decode cX12_would 129 = .ok (.aload_n 0, 1) := by decide +kernel
theorem dX12_would_130 : decode cX12_would 130 = .ok (.getfield 32, 3) := by decide +kernel
theorem dX12_would_133 : decode cX12_would 133 = .ok (.bipush 18, 2) := by decide +kernel
theorem dX12_would_135 : decode cX12_would 135 = .ok (.iaload, 1) := by decide +kernel
theorem dX12_would_136 : decode cX12_would 136 = .ok (.goto 24, 3) := by decide +kernel
theorem dX12_would_139 : decode cX12_would 139 = .ok (.iload_n 2, 1) := by decide +kernel
theorem dX12_would_140 : decode cX12_would 140 = .ok (.iconst 4, 1) := by decide +kernel
theorem dX12_would_141 : decode cX12_would 141 = .ok (.if_icmp .ne 12, 3) := by decide +kernel
theorem dX12_would_144 : decode cX12_would 144 = .ok (.aload_n 0, 1) := by decide +kernel
theorem dX12_would_145 : decode cX12_would 145 = .ok (.getfield 32, 3) := by decide +kernel
theorem dX12_would_148 : decode cX12_would 148 = .ok (.iconst 1, 1) := by decide +kernel
theorem dX12_would_149 : decode cX12_would 149 = .ok (.iaload, 1) := by decide +kernel
theorem dX12_would_150 : decode cX12_would 150 = .ok (.goto 10, 3) := by decide +kernel
theorem dX12_would_153 : decode cX12_would 153 = .ok (.aload_n 0, 1) := by decide +kernel
theorem dX12_would_154 : decode cX12_would 154 = .ok (.getfield 32, 3) := by decide +kernel
theorem dX12_would_157 : decode cX12_would 157 = .ok (.bipush 22, 2) := by decide +kernel
theorem dX12_would_159 : decode cX12_would 159 = .ok (.iaload, 1) := by decide +kernel
theorem dX12_would_160 : decode cX12_would 160 = .ok (.istore_n 3, 1) := by decide +kernel
theorem dX12_would_161 : decode cX12_would 161 = .ok (.aload_n 0, 1) := by decide +kernel
theorem dX12_would_162 : decode cX12_would 162 = .ok (.invokevirtual 213, 3) := by decide +kernel
theorem dX12_would_165 : decode cX12_would 165 = .ok (.iload_n 3, 1) := by decide +kernel
theorem dX12_would_166 : decode cX12_would 166 = .ok (.ireturn, 1) := by decide +kernel
theorem dX12_worst_0 : decode cX12_worst 0 = .ok (.aload_n 0, 1) := by decide +kernel
theorem dX12_worst_1 : decode cX12_worst 1 = .ok (.iconst 0, 1) := by decide +kernel
theorem dX12_worst_2 : decode cX12_worst 2 = .ok (.putfield 1, 3) := by decide +kernel
theorem dX12_worst_5 : decode cX12_worst 5 = .ok (.iconst (-1), 1) := by decide +kernel
theorem dX12_worst_6 : decode cX12_worst 6 = .ok (.istore_n 1, 1) := by decide +kernel
theorem dX12_worst_7 : decode cX12_worst 7 = .ok (.iconst 0, 1) := by decide +kernel
theorem dX12_worst_8 : decode cX12_worst 8 = .ok (.istore_n 2, 1) := by decide +kernel
theorem dX12_worst_9 : decode cX12_worst 9 = .ok (.aload_n 0, 1) := by decide +kernel
theorem dX12_worst_10 : decode cX12_worst 10 = .ok (.getfield 32, 3) := by decide +kernel
theorem dX12_worst_13 : decode cX12_worst 13 = .ok (.iconst 0, 1) := by decide +kernel
theorem dX12_worst_14 : decode cX12_worst 14 = .ok (.iaload, 1) := by decide +kernel
theorem dX12_worst_15 : decode cX12_worst 15 = .ok (.istore_n 3, 1) := by decide +kernel
theorem dX12_worst_16 : decode cX12_worst 16 = .ok (.iload_n 3, 1) := by decide +kernel
theorem dX12_worst_17 : decode cX12_worst 17 = .ok (.istore 4, 2) := by decide +kernel
theorem dX12_worst_19 : decode cX12_worst 19 = .ok (.iload 4, 2) := by decide +kernel
theorem dX12_worst_21 : decode cX12_worst 21 = .ok (.iload_n 3, 1) := by decide +kernel
theorem dX12_worst_22 : decode cX12_worst 22 = .ok (.bipush 48, 2) := by decide +kernel
theorem dX12_worst_24 : decode cX12_worst 24 = .ok (.iadd, 1) := by decide +kernel
theorem dX12_worst_25 : decode cX12_worst 25 = .ok (.if_icmp .ge 94, 3) := by decide +kernel
theorem dX12_worst_28 : decode cX12_worst 28 = .ok (.iload 4, 2) := by decide +kernel
theorem dX12_worst_30 : decode cX12_worst 30 = .ok (.aload_n 0, 1) := by decide +kernel
theorem dX12_worst_31 : decode cX12_worst 31 = .ok (.getfield 64, 3) := by decide +kernel
theorem dX12_worst_34 : decode cX12_worst 34 = .ok (.if_icmp .ge 85, 3) := by decide +kernel
theorem dX12_worst_37 : decode cX12_worst 37 = .ok (.aload_n 0, 1) := by decide +kernel
theorem dX12_worst_38 : decode cX12_worst 38 = .ok (.invokevirtual 210, 3) := by decide +kernel
theorem dX12_worst_41 : decode cX12_worst 41 = .ok (.aload_n 0, 1) := by decide +kernel
theorem dX12_worst_42 : decode cX12_worst 42 = .ok (.getfield 23, 3) := by decide +kernel
theorem dX12_worst_45 : decode cX12_worst 45 = .ok (.iload 4, 2) := by decide +kernel
theorem dX12_worst_47 : decode cX12_worst 47 = .ok (.iconst 1, 1) := by decide +kernel
theorem dX12_worst_48 : decode cX12_worst 48 = .ok (.aload_n 0, 1) := by decide +kernel
theorem dX12_worst_49 : decode cX12_worst 49 = .ok (.getfield 23, 3) := by decide +kernel
theorem dX12_worst_52 : decode cX12_worst 52 = .ok (.iload 4, 2) := by decide +kernel
theorem dX12_worst_54 : decode cX12_worst 54 = .ok (.iaload, 1) := by decide +kernel
theorem dX12_worst_55 : decode cX12_worst 55 = .ok (.isub, 1) := by decide +kernel
theorem dX12_worst_56 : decode cX12_worst 56 = .ok (.iastore, 1) := by decide +kernel
theorem dX12_worst_57 : decode cX12_worst 57 = .ok (.aload_n 0, 1) := by decide +kernel
theorem dX12_worst_58 : decode cX12_worst 58 = .ok (.sipush 4800, 3) := by decide +kernel
theorem dX12_worst_61 : decode cX12_worst 61 = .ok (.invokevirtual 188, 3) := by decide +kernel
theorem dX12_worst_64 : decode cX12_worst 64 = .ok (.aload_n 0, 1) := by decide +kernel
theorem dX12_worst_65 : decode cX12_worst 65 = .ok (.getfield 23, 3) := by decide +kernel
theorem dX12_worst_68 : decode cX12_worst 68 = .ok (.iload 4, 2) := by decide +kernel
theorem dX12_worst_70 : decode cX12_worst 70 = .ok (.iconst 1, 1) := by decide +kernel
theorem dX12_worst_71 : decode cX12_worst 71 = .ok (.aload_n 0, 1) := by decide +kernel
theorem dX12_worst_72 : decode cX12_worst 72 = .ok (.getfield 23, 3) := by decide +kernel
theorem dX12_worst_75 : decode cX12_worst 75 = .ok (.iload 4, 2) := by decide +kernel
theorem dX12_worst_77 : decode cX12_worst 77 = .ok (.iaload, 1) := by decide +kernel
theorem dX12_worst_78 : decode cX12_worst 78 = .ok (.isub, 1) := by decide +kernel
theorem dX12_worst_79 : decode cX12_worst 79 = .ok (.iastore, 1) := by decide +kernel
theorem dX12_worst_80 : decode cX12_worst 80 = .ok (.aload_n 0, 1) := by decide +kernel
theorem dX12_worst_81 : decode cX12_worst 81 = .ok (.getfield 32, 3) := by decide +kernel
theorem dX12_worst_84 : decode cX12_worst 84 = .ok (.bipush 16, 2) := by decide +kernel
theorem dX12_worst_86 : decode cX12_worst 86 = .ok (.iaload, 1) := by decide +kernel
theorem dX12_worst_87 : decode cX12_worst 87 = .ok (.istore 5, 2) := by decide +kernel
theorem dX12_worst_89 : decode cX12_worst 89 = .ok (.aload_n 0, 1) := by decide +kernel
theorem dX12_worst_90 : decode cX12_worst 90 = .ok (.invokevirtual 213, 3) := by decide +kernel
theorem dX12_worst_93 : decode cX12_worst 93 = .ok (.iload_n 1, 1) := by decide +kernel
theorem dX12_worst_94 : decode cX12_worst 94 = .ok (.iconst (-1), 1) := by decide +kernel
theorem dX12_worst_95 : decode cX12_worst 95 = .ok (.if_icmp .eq 12, 3) := by decide +kernel
theorem dX12_worst_98 : decode cX12_worst 98 = .ok (.iload 5, 2) := by decide +kernel
theorem dX12_worst_100 : decode cX12_worst 100 = .ok (.iload_n 2, 1) := by decide +kernel
theorem dX12_worst_101 : decode cX12_worst 101 = .ok (.if_icmp .lt 6, 3) := by decide +kernel
theorem dX12_worst_104 : decode cX12_worst 104 = .ok (.goto 9, 3) := by decide +kernel
theorem dX12_worst_107 : decode cX12_worst 107 = .ok (.iload 4, 2) := by decide +kernel
theorem dX12_worst_109 : decode cX12_worst 109 = .ok (.istore_n 1, 1) := by decide +kernel
theorem dX12_worst_110 : decode cX12_worst 110 = .ok (.iload 5, 2) := by decide +kernel
theorem dX12_worst_112 : decode cX12_worst 112 = .ok (.istore_n 2, 1) := by decide +kernel
theorem dX12_worst_113 : decode cX12_worst 113 = .ok (.iinc 4 1, 3) := by decide +kernel
theorem dX12_worst_116 : decode cX12_worst 116 = .ok (.goto (-97), 3) := by decide +kernel
theorem dX12_worst_119 : decode cX12_worst 119 = .ok (.iload_n 1, 1) := by decide +kernel
theorem dX12_worst_120 : decode cX12_worst 120 = .ok (.ireturn, 1) := by decide +kernel
theorem dX12_regained_0 : decode cX12_regained 0 = .ok (.aload_n 0, 1) := by decide +kernel
theorem dX12_regained_1 : decode cX12_regained 1 = .ok (.iconst 0, 1) := by decide +kernel
theorem dX12_regained_2 : decode cX12_regained 2 = .ok (.putfield 1, 3) := by decide +kernel
theorem dX12_regained_5 : decode cX12_regained 5 = .ok (.iload_n 1, 1) := by decide +kernel
theorem dX12_regained_6 : decode cX12_regained 6 = .ok (.i2l, 1) := by decide +kernel
theorem dX12_regained_7 : decode cX12_regained 7 = .ok (.lconst 1, 1) := by decide +kernel
theorem dX12_regained_8 : decode cX12_regained 8 = .ok (.ldc2_w 134, 3) := by decide +kernel
theorem dX12_regained_11 : decode cX12_regained 11 = .ok (.invokestatic 77, 3) := by decide +kernel
theorem dX12_regained_14 : decode cX12_regained 14 = .ok (.ifCond .eq 18, 3) := by decide +kernel
theorem dX12_regained_17 : decode cX12_regained 17 = .ok (.iload_n 1, 1) := by decide +kernel
theorem dX12_regained_18 : decode cX12_regained 18 = .ok (.aload_n 0, 1) := by decide +kernel
theorem dX12_regained_19 : decode cX12_regained 19 = .ok (.getfield 64, 3) := by decide +kernel
theorem dX12_regained_22 : decode cX12_regained 22 = .ok (.aload_n 0, 1) := by decide +kernel
theorem dX12_regained_23 : decode cX12_regained 23 = .ok (.getfield 32, 3) := by decide +kernel
theorem dX12_regained_26 : decode cX12_regained 26 = .ok (.iconst 0, 1) := by decide +kernel
theorem dX12_regained_27 : decode cX12_regained 27 = .ok (.iaload, 1) := by decide +kernel
theorem dX12_regained_28 : decode cX12_regained 28 = .ok (.isub, 1) := by decide +kernel
theorem dX12_regained_29 : decode cX12_regained 29 = .ok (.if_icmp .le 6, 3) := by decide +kernel
theorem dX12_regained_32 : decode cX12_regained 32 = .ok (.bipush (-3), 2) := by decide +kernel
theorem dX12_regained_34 : decode cX12_regained 34 = .ok (.ireturn, 1) := by decide +kernel
theorem dX12_regained_35 : decode cX12_regained 35 = .ok (.aload_n 0, 1) := by decide +kernel
theorem dX12_regained_36 : decode cX12_regained 36 = .ok (.iload_n 1, 1) := by decide +kernel
theorem dX12_regained_37 : decode cX12_regained 37 = .ok (.invokevirtual 218, 3) := by decide +kernel
theorem dX12_regained_40 : decode cX12_regained 40 = .ok (.ireturn, 1) := by decide +kernel
theorem dX12_regainedBy_0 : decode cX12_regainedBy 0 = .ok (.aload_n 0, 1) := by decide +kernel
theorem dX12_regainedBy_1 : decode cX12_regainedBy 1 = .ok (.invokevirtual 210, 3) := by decide +kernel
theorem dX12_regainedBy_4 : decode cX12_regainedBy 4 = .ok (.aload_n 0, 1) := by decide +kernel
theorem dX12_regainedBy_5 : decode cX12_regainedBy 5 = .ok (.getfield 32, 3) := by decide +kernel
theorem dX12_regainedBy_8 : decode cX12_regainedBy 8 = .ok (.iconst 0, 1) := by decide +kernel
theorem dX12_regainedBy_9 : decode cX12_regainedBy 9 = .ok (.dup2, 1) := by decide +kernel
theorem dX12_regainedBy_10 : decode cX12_regainedBy 10 = .ok (.iaload, 1) := by decide +kernel
theorem dX12_regainedBy_11 : decode cX12_regainedBy 11 = .ok (.iload_n 1, 1) := by decide +kernel
theorem dX12_regainedBy_12 : decode cX12_regainedBy 12 = .ok (.iadd, 1) := by decide +kernel
theorem dX12_regainedBy_13 : decode cX12_regainedBy 13 = .ok (.iastore, 1) := by decide +kernel
theorem dX12_regainedBy_14 : decode cX12_regainedBy 14 = .ok (.iconst 0, 1) := by decide +kernel
theorem dX12_regainedBy_15 : decode cX12_regainedBy 15 = .ok (.istore_n 2, 1) := by decide +kernel
theorem dX12_regainedBy_16 : decode cX12_regainedBy 16 = .ok (.iconst 0, 1) := by decide +kernel
theorem dX12_regainedBy_17 : decode cX12_regainedBy 17 = .ok (.istore_n 3, 1) := by decide +kernel
theorem dX12_regainedBy_18 : decode cX12_regainedBy 18 = .ok (.iload_n 3, 1) := by decide +kernel
theorem dX12_regainedBy_19 : decode cX12_regainedBy 19 = .ok (.ifCond .ne 56, 3) := by decide +kernel
theorem dX12_regainedBy_22 : decode cX12_regainedBy 22 = .ok (.aload_n 0, 1) := by decide +kernel
theorem dX12_regainedBy_23 : decode cX12_regainedBy 23 = .ok (.getfield 32, 3) := by decide +kernel
theorem dX12_regainedBy_26 : decode cX12_regainedBy 26 = .ok (.iconst 0, 1) := by decide +kernel
theorem dX12_regainedBy_27 : decode cX12_regainedBy 27 = .ok (.iaload, 1) := by decide +kernel
theorem dX12_regainedBy_28 : decode cX12_regainedBy 28 = .ok (.aload_n 0, 1) := by decide +kernel
theorem dX12_regainedBy_29 : decode cX12_regainedBy 29 = .ok (.getfield 64, 3) := by decide +kernel
theorem dX12_regainedBy_32 : decode cX12_regainedBy 32 = .ok (.if_icmp .ge 43, 3) := by decide +kernel
theorem dX12_regainedBy_35 : decode cX12_regainedBy 35 = .ok (.aload_n 0, 1) := by decide +kernel
theorem dX12_regainedBy_36 : decode cX12_regainedBy 36 = .ok (.getfield 32, 3) := by decide +kernel
theorem dX12_regainedBy_39 : decode cX12_regainedBy 39 = .ok (.iconst 1, 1) := by decide +kernel
theorem dX12_regainedBy_40 : decode cX12_regainedBy 40 = .ok (.iaload, 1) := by decide +kernel
theorem dX12_regainedBy_41 : decode cX12_regainedBy 41 = .ok (.istore 4, 2) := by decide +kernel
theorem dX12_regainedBy_43 : decode cX12_regainedBy 43 = .ok (.aload_n 0, 1) := by decide +kernel
theorem dX12_regainedBy_44 : decode cX12_regainedBy 44 = .ok (.invokevirtual 183, 3) := by decide +kernel
theorem dX12_regainedBy_47 : decode cX12_regainedBy 47 = .ok (.iinc 2 1, 3) := by decide +kernel
theorem dX12_regainedBy_50 : decode cX12_regainedBy 50 = .ok (.aload_n 0, 1) := by decide +kernel
theorem dX12_regainedBy_51 : decode cX12_regainedBy 51 = .ok (.getfield 32, 3) := by decide +kernel
theorem dX12_regainedBy_54 : decode cX12_regainedBy 54 = .ok (.iconst 1, 1) := by decide +kernel
theorem dX12_regainedBy_55 : decode cX12_regainedBy 55 = .ok (.iaload, 1) := by decide +kernel
theorem dX12_regainedBy_56 : decode cX12_regainedBy 56 = .ok (.iconst 2, 1) := by decide +kernel
theorem dX12_regainedBy_57 : decode cX12_regainedBy 57 = .ok (.if_icmp .ne 13, 3) := by decide +kernel
theorem dX12_regainedBy_60 : decode cX12_regainedBy 60 = .ok (.iload 4, 2) := by decide +kernel
theorem dX12_regainedBy_62 : decode cX12_regainedBy 62 = .ok (.iconst 2, 1) := by decide +kernel
theorem dX12_regainedBy_63 : decode cX12_regainedBy 63 = .ok (.if_icmp .eq 7, 3) := by decide +kernel
theorem dX12_regainedBy_66 : decode cX12_regainedBy 66 = .ok (.iconst 1, 1) := by decide +kernel
theorem dX12_regainedBy_67 : decode cX12_regainedBy 67 = .ok (.goto 4, 3) := by decide +kernel
theorem dX12_regainedBy_70 : decode cX12_regainedBy 70 = .ok (.iconst 0, 1) := by decide +kernel
theorem dX12_regainedBy_71 : decode cX12_regainedBy 71 = .ok (.istore_n 3, 1) := by decide +kernel
theorem dX12_regainedBy_72 : decode cX12_regainedBy 72 = .ok (.goto (-54), 3) := by decide +kernel
theorem dX12_regainedBy_75 : decode cX12_regainedBy 75 = .ok (.aload_n 0, 1) := by decide +kernel
theorem dX12_regainedBy_76 : decode cX12_regainedBy 76 = .ok (.invokevirtual 213, 3) := by decide +kernel
theorem dX12_regainedBy_79 : decode cX12_regainedBy 79 = .ok (.iload_n 3, 1) := by decide +kernel
theorem dX12_regainedBy_80 : decode cX12_regainedBy 80 = .ok (.ifCond .eq 7, 3) := by decide +kernel
theorem dX12_regainedBy_83 : decode cX12_regainedBy 83 = .ok (.iload_n 2, 1) := by decide +kernel
theorem dX12_regainedBy_84 : decode cX12_regainedBy 84 = .ok (.goto 4, 3) := by decide +kernel
theorem dX12_regainedBy_87 : decode cX12_regainedBy 87 = .ok (.iconst (-1), 1) := by decide +kernel
theorem dX12_regainedBy_88 : decode cX12_regainedBy 88 = .ok (.ireturn, 1) := by decide +kernel
theorem dX12_latest_0 : decode cX12_latest 0 = .ok (.aload_n 0, 1) := by decide +kernel
theorem dX12_latest_1 : decode cX12_latest 1 = .ok (.iconst 0, 1) := by decide +kernel
theorem dX12_latest_2 : decode cX12_latest 2 = .ok (.putfield 1, 3) := by decide +kernel
theorem dX12_latest_5 : decode cX12_latest 5 = .ok (.iload_n 1, 1) := by decide +kernel
theorem dX12_latest_6 : decode cX12_latest 6 = .ok (.i2l, 1) := by decide +kernel
theorem dX12_latest_7 : decode cX12_latest 7 = .ok (.lconst 0, 1) := by decide +kernel
theorem dX12_latest_8 : decode cX12_latest 8 = .ok (.ldc2_w 99, 3) := by decide +kernel
theorem dX12_latest_11 : decode cX12_latest 11 = .ok (.invokestatic 77, 3) := by decide +kernel
theorem dX12_latest_14 : decode cX12_latest 14 = .ok (.ifCond .ne 6, 3) := by decide +kernel
theorem dX12_latest_17 : decode cX12_latest 17 = .ok (.bipush (-2), 2) := by decide +kernel
theorem dX12_latest_19 : decode cX12_latest 19 = .ok (.ireturn, 1) := by decide +kernel
theorem dX12_latest_20 : decode cX12_latest 20 = .ok (.iconst (-1), 1) := by decide +kernel
theorem dX12_latest_21 : decode cX12_latest 21 = .ok (.istore_n 2, 1) := by decide +kernel
theorem dX12_latest_22 : decode cX12_latest 22 = .ok (.iconst (-1), 1) := by decide +kernel
theorem dX12_latest_23 : decode cX12_latest 23 = .ok (.istore_n 3, 1) := by decide +kernel
theorem dX12_latest_24 : decode cX12_latest 24 = .ok (.iconst 0, 1) := by decide +kernel
theorem dX12_latest_25 : decode cX12_latest 25 = .ok (.istore 4, 2) := by decide +kernel
theorem dX12_latest_27 : decode cX12_latest 27 = .ok (.iconst 1, 1) := by decide +kernel
theorem dX12_latest_28 : decode cX12_latest 28 = .ok (.istore 5, 2) := by decide +kernel
theorem dX12_latest_30 : decode cX12_latest 30 = .ok (.iload 5, 2) := by decide +kernel
theorem dX12_latest_32 : decode cX12_latest 32 = .ok (.bipush 64, 2) := by decide +kernel
theorem dX12_latest_34 : decode cX12_latest 34 = .ok (.if_icmp .gt 64, 3) := by decide +kernel
theorem dX12_latest_37 : decode cX12_latest 37 = .ok (.iload 5, 2) := by decide +kernel
theorem dX12_latest_39 : decode cX12_latest 39 = .ok (.aload_n 0, 1) := by decide +kernel
theorem dX12_latest_40 : decode cX12_latest 40 = .ok (.getfield 64, 3) := by decide +kernel
theorem dX12_latest_43 : decode cX12_latest 43 = .ok (.aload_n 0, 1) := by decide +kernel
theorem dX12_latest_44 : decode cX12_latest 44 = .ok (.getfield 32, 3) := by decide +kernel
theorem dX12_latest_47 : decode cX12_latest 47 = .ok (.iconst 0, 1) := by decide +kernel
theorem dX12_latest_48 : decode cX12_latest 48 = .ok (.iaload, 1) := by decide +kernel
theorem dX12_latest_49 : decode cX12_latest 49 = .ok (.isub, 1) := by decide +kernel
theorem dX12_latest_50 : decode cX12_latest 50 = .ok (.if_icmp .gt 48, 3) := by decide +kernel
theorem dX12_latest_53 : decode cX12_latest 53 = .ok (.aload_n 0, 1) := by decide +kernel
theorem dX12_latest_54 : decode cX12_latest 54 = .ok (.iload 5, 2) := by decide +kernel
theorem dX12_latest_56 : decode cX12_latest 56 = .ok (.invokevirtual 218, 3) := by decide +kernel
theorem dX12_latest_59 : decode cX12_latest 59 = .ok (.istore 6, 2) := by decide +kernel
theorem dX12_latest_61 : decode cX12_latest 61 = .ok (.iload 4, 2) := by decide +kernel
theorem dX12_latest_63 : decode cX12_latest 63 = .ok (.iload 6, 2) := by decide +kernel
theorem dX12_latest_65 : decode cX12_latest 65 = .ok (.iconst (-1), 1) := by decide +kernel
theorem dX12_latest_66 : decode cX12_latest 66 = .ok (.if_icmp .ne 7, 3) := by decide +kernel
theorem dX12_latest_69 : decode cX12_latest 69 = .ok (.iconst 0, 1) := by decide +kernel
theorem dX12_latest_70 : decode cX12_latest 70 = .ok (.goto 4, 3) := by decide +kernel
theorem dX12_latest_73 : decode cX12_latest 73 = .ok (.iconst 1, 1) := by decide +kernel
theorem dX12_latest_74 : decode cX12_latest 74 = .ok (.iadd, 1) := by decide +kernel
theorem dX12_latest_75 : decode cX12_latest 75 = .ok (.istore 4, 2) := by decide +kernel
theorem dX12_latest_77 : decode cX12_latest 77 = .ok (.iload 6, 2) := by decide +kernel
theorem dX12_latest_79 : decode cX12_latest 79 = .ok (.iload_n 2, 1) := by decide +kernel
theorem dX12_latest_80 : decode cX12_latest 80 = .ok (.if_icmp .gt 6, 3) := by decide +kernel
theorem dX12_latest_83 : decode cX12_latest 83 = .ok (.goto 9, 3) := by decide +kernel
theorem dX12_latest_86 : decode cX12_latest 86 = .ok (.iload 6, 2) := by decide +kernel
theorem dX12_latest_88 : decode cX12_latest 88 = .ok (.istore_n 2, 1) := by decide +kernel
theorem dX12_latest_89 : decode cX12_latest 89 = .ok (.iload 5, 2) := by decide +kernel
theorem dX12_latest_91 : decode cX12_latest 91 = .ok (.istore_n 3, 1) := by decide +kernel
theorem dX12_latest_92 : decode cX12_latest 92 = .ok (.iinc 5 1, 3) := by decide +kernel
theorem dX12_latest_95 : decode cX12_latest 95 = .ok (.goto (-65), 3) := by decide +kernel
theorem dX12_latest_98 : decode cX12_latest 98 = .ok (.iload_n 1, 1) := by decide +kernel
theorem dX12_latest_99 : decode cX12_latest 99 = .ok (.ifCond .ne 7, 3) := by decide +kernel
theorem dX12_latest_102 : decode cX12_latest 102 = .ok (.iload_n 2, 1) := by decide +kernel
theorem dX12_latest_103 : decode cX12_latest 103 = .ok (.goto 14, 3) := by decide +kernel
theorem dX12_latest_106 : decode cX12_latest 106 = .ok (.iload_n 1, 1) := by decide +kernel
theorem dX12_latest_107 : decode cX12_latest 107 = .ok (.iconst 1, 1) := by decide +kernel
theorem dX12_latest_108 : decode cX12_latest 108 = .ok (.if_icmp .ne 7, 3) := by decide +kernel
theorem dX12_latest_111 : decode cX12_latest 111 = .ok (.iload_n 3, 1) := by decide +kernel
theorem dX12_latest_112 : decode cX12_latest 112 = .ok (.goto 5, 3) := by decide +kernel
theorem dX12_latest_115 : decode cX12_latest 115 = .ok (.iload 4, 2) := by decide +kernel
theorem dX12_latest_117 : decode cX12_latest 117 = .ok (.ireturn, 1) := by decide +kernel
theorem dX12_spread_0 : decode cX12_spread 0 = .ok (.aload_n 0, 1) := by decide +kernel
theorem dX12_spread_1 : decode cX12_spread 1 = .ok (.iconst 0, 1) := by decide +kernel
theorem dX12_spread_2 : decode cX12_spread 2 = .ok (.putfield 1, 3) := by decide +kernel
theorem dX12_spread_5 : decode cX12_spread 5 = .ok (.aload_n 0, 1) := by decide +kernel
theorem dX12_spread_6 : decode cX12_spread 6 = .ok (.iload_n 1, 1) := by decide +kernel
theorem dX12_spread_7 : decode cX12_spread 7 = .ok (.invokevirtual 131, 3) := by decide +kernel
theorem dX12_spread_10 : decode cX12_spread 10 = .ok (.ifCond .ne 6, 3) := by decide +kernel
theorem dX12_spread_13 : decode cX12_spread 13 = .ok (.bipush (-2), 2) := by decide +kernel
theorem dX12_spread_15 : decode cX12_spread 15 = .ok (.ireturn, 1) := by decide +kernel
theorem dX12_spread_16 : decode cX12_spread 16 = .ok (.iload_n 2, 1) := by decide +kernel
theorem dX12_spread_17 : decode cX12_spread 17 = .ok (.iconst (-1), 1) := by decide +kernel
theorem dX12_spread_18 : decode cX12_spread 18 = .ok (.if_icmp .ge 6, 3) := by decide +kernel
theorem dX12_spread_21 : decode cX12_spread 21 = .ok (.bipush (-3), 2) := by decide +kernel
theorem dX12_spread_23 : decode cX12_spread 23 = .ok (.ireturn, 1) := by decide +kernel
theorem dX12_spread_24 : decode cX12_spread 24 = .ok (.iload_n 1, 1) := by decide +kernel
theorem dX12_spread_25 : decode cX12_spread 25 = .ok (.aload_n 0, 1) := by decide +kernel
theorem dX12_spread_26 : decode cX12_spread 26 = .ok (.getfield 32, 3) := by decide +kernel
theorem dX12_spread_29 : decode cX12_spread 29 = .ok (.iconst 0, 1) := by decide +kernel
theorem dX12_spread_30 : decode cX12_spread 30 = .ok (.iaload, 1) := by decide +kernel
theorem dX12_spread_31 : decode cX12_spread 31 = .ok (.if_icmp .ge 6, 3) := by decide +kernel
theorem dX12_spread_34 : decode cX12_spread 34 = .ok (.bipush (-5), 2) := by decide +kernel
theorem dX12_spread_36 : decode cX12_spread 36 = .ok (.ireturn, 1) := by decide +kernel
theorem dX12_spread_37 : decode cX12_spread 37 = .ok (.iconst 0, 1) := by decide +kernel
theorem dX12_spread_38 : decode cX12_spread 38 = .ok (.istore_n 3, 1) := by decide +kernel
theorem dX12_spread_39 : decode cX12_spread 39 = .ok (.iload_n 3, 1) := by decide +kernel
theorem dX12_spread_40 : decode cX12_spread 40 = .ok (.aload_n 0, 1) := by decide +kernel
theorem dX12_spread_41 : decode cX12_spread 41 = .ok (.getfield 64, 3) := by decide +kernel
theorem dX12_spread_44 : decode cX12_spread 44 = .ok (.if_icmp .ge 23, 3) := by decide +kernel
theorem dX12_spread_47 : decode cX12_spread 47 = .ok (.aload_n 0, 1) := by decide +kernel
theorem dX12_spread_48 : decode cX12_spread 48 = .ok (.getfield 38, 3) := by decide +kernel
theorem dX12_spread_51 : decode cX12_spread 51 = .ok (.iload_n 3, 1) := by decide +kernel
theorem dX12_spread_52 : decode cX12_spread 52 = .ok (.iconst 0, 1) := by decide +kernel
theorem dX12_spread_53 : decode cX12_spread 53 = .ok (.iastore, 1) := by decide +kernel
theorem dX12_spread_54 : decode cX12_spread 54 = .ok (.aload_n 0, 1) := by decide +kernel
theorem dX12_spread_55 : decode cX12_spread 55 = .ok (.getfield 41, 3) := by decide +kernel
theorem dX12_spread_58 : decode cX12_spread 58 = .ok (.iload_n 3, 1) := by decide +kernel
theorem dX12_spread_59 : decode cX12_spread 59 = .ok (.iconst 0, 1) := by decide +kernel
theorem dX12_spread_60 : decode cX12_spread 60 = .ok (.iastore, 1) := by decide +kernel
theorem dX12_spread_61 : decode cX12_spread 61 = .ok (.iinc 3 1, 3) := by decide +kernel
theorem dX12_spread_64 : decode cX12_spread 64 = .ok (.goto (-25), 3) := by decide +kernel
theorem dX12_spread_67 : decode cX12_spread 67 = .ok (.aload_n 0, 1) := by decide +kernel
theorem dX12_spread_68 : decode cX12_spread 68 = .ok (.iconst 1, 1) := by decide +kernel
theorem dX12_spread_69 : decode cX12_spread 69 = .ok (.putfield 160, 3) := by decide +kernel
theorem dX12_spread_72 : decode cX12_spread 72 = .ok (.aload_n 0, 1) := by decide +kernel
theorem dX12_spread_73 : decode cX12_spread 73 = .ok (.getfield 160, 3) := by decide +kernel
theorem dX12_spread_76 : decode cX12_spread 76 = .ok (.iconst 3, 1) := by decide +kernel
theorem dX12_spread_77 : decode cX12_spread 77 = .ok (.if_icmp .ge 45, 3) := by decide +kernel
theorem dX12_spread_80 : decode cX12_spread 80 = .ok (.aload_n 0, 1) := by decide +kernel
theorem dX12_spread_81 : decode cX12_spread 81 = .ok (.invokevirtual 210, 3) := by decide +kernel
theorem dX12_spread_84 : decode cX12_spread 84 = .ok (.aload_n 0, 1) := by decide +kernel
theorem dX12_spread_85 : decode cX12_spread 85 = .ok (.sipush 9600, 3) := by decide +kernel
theorem dX12_spread_88 : decode cX12_spread 88 = .ok (.invokevirtual 188, 3) := by decide +kernel
theorem dX12_spread_91 : decode cX12_spread 91 = .ok (.aload_n 0, 1) := by decide +kernel
theorem dX12_spread_92 : decode cX12_spread 92 = .ok (.invokevirtual 213, 3) := by decide +kernel
theorem dX12_spread_95 : decode cX12_spread 95 = .ok (.aload_n 0, 1) := by decide +kernel
theorem dX12_spread_96 : decode cX12_spread 96 = .ok (.getfield 23, 3) := by decide +kernel
theorem dX12_spread_99 : decode cX12_spread 99 = .ok (.iload_n 1, 1) := by decide +kernel
theorem dX12_spread_100 : decode cX12_spread 100 = .ok (.iconst 1, 1) := by decide +kernel
theorem dX12_spread_101 : decode cX12_spread 101 = .ok (.aload_n 0, 1) := by decide +kernel
theorem dX12_spread_102 : decode cX12_spread 102 = .ok (.getfield 23, 3) := by decide +kernel
theorem dX12_spread_105 : decode cX12_spread 105 = .ok (.iload_n 1, 1) := by decide +kernel
theorem dX12_spread_106 : decode cX12_spread 106 = .ok (.iaload, 1) := by decide +kernel
theorem dX12_spread_107 : decode cX12_spread 107 = .ok (.isub, 1) := by decide +kernel
theorem dX12_spread_108 : decode cX12_spread 108 = .ok (.iastore, 1) := by decide +kernel
theorem dX12_spread_109 : decode cX12_spread 109 = .ok (.aload_n 0, 1) := by decide +kernel
theorem dX12_spread_110 : decode cX12_spread 110 = .ok (.dup, 1) := by decide +kernel
theorem dX12_spread_111 : decode cX12_spread 111 = .ok (.getfield 160, 3) := by decide +kernel
theorem dX12_spread_114 : decode cX12_spread 114 = .ok (.iconst 1, 1) := by decide +kernel
theorem dX12_spread_115 : decode cX12_spread 115 = .ok (.iadd, 1) := by decide +kernel
theorem dX12_spread_116 : decode cX12_spread 116 = .ok (.putfield 160, 3) := by decide +kernel
theorem dX12_spread_119 : decode cX12_spread 119 = .ok (.goto (-47), 3) := by decide +kernel
theorem dX12_spread_122 : decode cX12_spread 122 = .ok (.aload_n 0, 1) := by decide +kernel
theorem dX12_spread_123 : decode cX12_spread 123 = .ok (.iconst 0, 1) := by decide +kernel
theorem dX12_spread_124 : decode cX12_spread 124 = .ok (.putfield 160, 3) := by decide +kernel
theorem dX12_spread_127 : decode cX12_spread 127 = .ok (.iconst 0, 1) := by decide +kernel
theorem dX12_spread_128 : decode cX12_spread 128 = .ok (.istore_n 3, 1) := by decide +kernel
theorem dX12_spread_129 : decode cX12_spread 129 = .ok (.iconst 0, 1) := by decide +kernel
theorem dX12_spread_130 : decode cX12_spread 130 = .ok (.istore 4, 2) := by decide +kernel
theorem dX12_spread_132 : decode cX12_spread 132 = .ok (.iload 4, 2) := by decide +kernel
theorem dX12_spread_134 : decode cX12_spread 134 = .ok (.aload_n 0, 1) := by decide +kernel
theorem dX12_spread_135 : decode cX12_spread 135 = .ok (.getfield 64, 3) := by decide +kernel
theorem dX12_spread_138 : decode cX12_spread 138 = .ok (.if_icmp .ge 60, 3) := by decide +kernel
theorem dX12_spread_141 : decode cX12_spread 141 = .ok (.aload_n 0, 1) := by decide +kernel
theorem dX12_spread_142 : decode cX12_spread 142 = .ok (.getfield 38, 3) := by decide +kernel
theorem dX12_spread_145 : decode cX12_spread 145 = .ok (.iload 4, 2) := by decide +kernel
theorem dX12_spread_147 : decode cX12_spread 147 = .ok (.iaload, 1) := by decide +kernel
theorem dX12_spread_148 : decode cX12_spread 148 = .ok (.ifCond .eq 44, 3) := by decide +kernel
theorem dX12_spread_151 : decode cX12_spread 151 = .ok (.aload_n 0, 1) := by decide +kernel
theorem dX12_spread_152 : decode cX12_spread 152 = .ok (.getfield 41, 3) := by decide +kernel
theorem dX12_spread_155 : decode cX12_spread 155 = .ok (.iload 4, 2) := by decide +kernel
theorem dX12_spread_157 : decode cX12_spread 157 = .ok (.iaload, 1) := by decide +kernel
theorem dX12_spread_158 : decode cX12_spread 158 = .ok (.ifCond .eq 34, 3) := by decide +kernel
theorem dX12_spread_161 : decode cX12_spread 161 = .ok (.aload_n 0, 1) := by decide +kernel
theorem dX12_spread_162 : decode cX12_spread 162 = .ok (.getfield 38, 3) := by decide +kernel
theorem dX12_spread_165 : decode cX12_spread 165 = .ok (.iload 4, 2) := by decide +kernel
theorem dX12_spread_167 : decode cX12_spread 167 = .ok (.iaload, 1) := by decide +kernel
theorem dX12_spread_168 : decode cX12_spread 168 = .ok (.aload_n 0, 1) := by decide +kernel
theorem dX12_spread_169 : decode cX12_spread 169 = .ok (.getfield 41, 3) := by decide +kernel
theorem dX12_spread_172 : decode cX12_spread 172 = .ok (.iload 4, 2) := by decide +kernel
theorem dX12_spread_174 : decode cX12_spread 174 = .ok (.iaload, 1) := by decide +kernel
theorem dX12_spread_175 : decode cX12_spread 175 = .ok (.if_icmp .ne 6, 3) := by decide +kernel
theorem dX12_spread_178 : decode cX12_spread 178 = .ok (.goto 14, 3) := by decide +kernel
theorem dX12_spread_181 : decode cX12_spread 181 = .ok (.iload_n 3, 1) := by decide +kernel
theorem dX12_spread_182 : decode cX12_spread 182 = .ok (.iload_n 2, 1) := by decide +kernel
theorem dX12_spread_183 : decode cX12_spread 183 = .ok (.if_icmp .ne 6, 3) := by decide +kernel
theorem dX12_spread_186 : decode cX12_spread 186 = .ok (.iload 4, 2) := by decide +kernel
theorem dX12_spread_188 : decode cX12_spread 188 = .ok (.ireturn, 1) := by decide +kernel
theorem dX12_spread_189 : decode cX12_spread 189 = .ok (.iinc 3 1, 3) := by decide +kernel
theorem dX12_spread_192 : decode cX12_spread 192 = .ok (.iinc 4 1, 3) := by decide +kernel
theorem dX12_spread_195 : decode cX12_spread 195 = .ok (.goto (-63), 3) := by decide +kernel
theorem dX12_spread_198 : decode cX12_spread 198 = .ok (.iload_n 2, 1) := by decide +kernel
theorem dX12_spread_199 : decode cX12_spread 199 = .ok (.iconst (-1), 1) := by decide +kernel
theorem dX12_spread_200 : decode cX12_spread 200 = .ok (.if_icmp .ne 7, 3) := by decide +kernel
theorem dX12_spread_203 : decode cX12_spread 203 = .ok (.iload_n 3, 1) := by decide +kernel
theorem dX12_spread_204 : decode cX12_spread 204 = .ok (.goto 4, 3) := by decide +kernel
theorem dX12_spread_207 : decode cX12_spread 207 = .ok (.iconst (-1), 1) := by decide +kernel
theorem dX12_spread_208 : decode cX12_spread 208 = .ok (.ireturn, 1) := by decide +kernel
theorem dX12_looksRight_0 : decode cX12_looksRight 0 = .ok (.iload_n 1, 1) := by decide +kernel
theorem dX12_looksRight_1 : decode cX12_looksRight 1 = .ok (.bipush 40, 2) := by decide +kernel
theorem dX12_looksRight_3 : decode cX12_looksRight 3 = .ok (.iadd, 1) := by decide +kernel
theorem dX12_looksRight_4 : decode cX12_looksRight 4 = .ok (.aload_n 0, 1) := by decide +kernel
theorem dX12_looksRight_5 : decode cX12_looksRight 5 = .ok (.getfield 64, 3) := by decide +kernel
theorem dX12_looksRight_8 : decode cX12_looksRight 8 = .ok (.if_icmp .le 5, 3) := by decide +kernel
theorem dX12_looksRight_11 : decode cX12_looksRight 11 = .ok (.iconst 0, 1) := by decide +kernel
theorem dX12_looksRight_12 : decode cX12_looksRight 12 = .ok (.ireturn, 1) := by decide +kernel
theorem dX12_looksRight_13 : decode cX12_looksRight 13 = .ok (.iconst 0, 1) := by decide +kernel
theorem dX12_looksRight_14 : decode cX12_looksRight 14 = .ok (.istore_n 2, 1) := by decide +kernel
theorem dX12_looksRight_15 : decode cX12_looksRight 15 = .ok (.iconst 0, 1) := by decide +kernel
theorem dX12_looksRight_16 : decode cX12_looksRight 16 = .ok (.istore_n 3, 1) := by decide +kernel
theorem dX12_looksRight_17 : decode cX12_looksRight 17 = .ok (.iconst 0, 1) := by decide +kernel
theorem dX12_looksRight_18 : decode cX12_looksRight 18 = .ok (.istore 4, 2) := by decide +kernel
theorem dX12_looksRight_20 : decode cX12_looksRight 20 = .ok (.iload 4, 2) := by decide +kernel
theorem dX12_looksRight_22 : decode cX12_looksRight 22 = .ok (.bipush 32, 2) := by decide +kernel
theorem dX12_looksRight_24 : decode cX12_looksRight 24 = .ok (.if_icmp .ge 23, 3) := by decide +kernel
theorem dX12_looksRight_27 : decode cX12_looksRight 27 = .ok (.iload_n 2, 1) := by decide +kernel
theorem dX12_looksRight_28 : decode cX12_looksRight 28 = .ok (.iconst 1, 1) := by decide +kernel
theorem dX12_looksRight_29 : decode cX12_looksRight 29 = .ok (.ishl, 1) := by decide +kernel
theorem dX12_looksRight_30 : decode cX12_looksRight 30 = .ok (.aload_n 0, 1) := by decide +kernel
theorem dX12_looksRight_31 : decode cX12_looksRight 31 = .ok (.getfield 23, 3) := by decide +kernel
theorem dX12_looksRight_34 : decode cX12_looksRight 34 = .ok (.iload_n 1, 1) := by decide +kernel
theorem dX12_looksRight_35 : decode cX12_looksRight 35 = .ok (.iload 4, 2) := by decide +kernel
theorem dX12_looksRight_37 : decode cX12_looksRight 37 = .ok (.iadd, 1) := by decide +kernel
theorem dX12_looksRight_38 : decode cX12_looksRight 38 = .ok (.iaload, 1) := by decide +kernel
theorem dX12_looksRight_39 : decode cX12_looksRight 39 = .ok (.ior, 1) := by decide +kernel
theorem dX12_looksRight_40 : decode cX12_looksRight 40 = .ok (.istore_n 2, 1) := by decide +kernel
theorem dX12_looksRight_41 : decode cX12_looksRight 41 = .ok (.iinc 4 1, 3) := by decide +kernel
theorem dX12_looksRight_44 : decode cX12_looksRight 44 = .ok (.goto (-24), 3) := by decide +kernel
theorem dX12_looksRight_47 : decode cX12_looksRight 47 = .ok (.bipush 32, 2) := by decide +kernel
theorem dX12_looksRight_49 : decode cX12_looksRight 49 = .ok (.istore 4, 2) := by decide +kernel
theorem dX12_looksRight_51 : decode cX12_looksRight 51 = .ok (.iload 4, 2) := by decide +kernel
theorem dX12_looksRight_53 : decode cX12_looksRight 53 = .ok (.bipush 40, 2) := by decide +kernel
theorem dX12_looksRight_55 : decode cX12_looksRight 55 = .ok (.if_icmp .ge 23, 3) := by decide +kernel
theorem dX12_looksRight_58 : decode cX12_looksRight 58 = .ok (.iload_n 3, 1) := by decide +kernel
theorem dX12_looksRight_59 : decode cX12_looksRight 59 = .ok (.iconst 1, 1) := by decide +kernel
theorem dX12_looksRight_60 : decode cX12_looksRight 60 = .ok (.ishl, 1) := by decide +kernel
theorem dX12_looksRight_61 : decode cX12_looksRight 61 = .ok (.aload_n 0, 1) := by decide +kernel
theorem dX12_looksRight_62 : decode cX12_looksRight 62 = .ok (.getfield 23, 3) := by decide +kernel
theorem dX12_looksRight_65 : decode cX12_looksRight 65 = .ok (.iload_n 1, 1) := by decide +kernel
theorem dX12_looksRight_66 : decode cX12_looksRight 66 = .ok (.iload 4, 2) := by decide +kernel
theorem dX12_looksRight_68 : decode cX12_looksRight 68 = .ok (.iadd, 1) := by decide +kernel
theorem dX12_looksRight_69 : decode cX12_looksRight 69 = .ok (.iaload, 1) := by decide +kernel
theorem dX12_looksRight_70 : decode cX12_looksRight 70 = .ok (.ior, 1) := by decide +kernel
theorem dX12_looksRight_71 : decode cX12_looksRight 71 = .ok (.istore_n 3, 1) := by decide +kernel
theorem dX12_looksRight_72 : decode cX12_looksRight 72 = .ok (.iinc 4 1, 3) := by decide +kernel
theorem dX12_looksRight_75 : decode cX12_looksRight 75 = .ok (.goto (-24), 3) := by decide +kernel
theorem dX12_looksRight_78 : decode cX12_looksRight 78 = .ok (.iload_n 2, 1) := by decide +kernel
theorem dX12_looksRight_79 : decode cX12_looksRight 79 = .ok (.invokestatic 88, 3) := by decide +kernel
theorem dX12_looksRight_82 : decode cX12_looksRight 82 = .ok (.iload_n 3, 1) := by decide +kernel
theorem dX12_looksRight_83 : decode cX12_looksRight 83 = .ok (.if_icmp .ne 7, 3) := by decide +kernel
theorem dX12_looksRight_86 : decode cX12_looksRight 86 = .ok (.iconst 1, 1) := by decide +kernel
theorem dX12_looksRight_87 : decode cX12_looksRight 87 = .ok (.goto 4, 3) := by decide +kernel
theorem dX12_looksRight_90 : decode cX12_looksRight 90 = .ok (.iconst 0, 1) := by decide +kernel
theorem dX12_looksRight_91 : decode cX12_looksRight 91 = .ok (.ireturn, 1) := by decide +kernel
theorem dX12_rights_0 : decode cX12_rights 0 = .ok (.aload_n 0, 1) := by decide +kernel
theorem dX12_rights_1 : decode cX12_rights 1 = .ok (.iconst 0, 1) := by decide +kernel
theorem dX12_rights_2 : decode cX12_rights 2 = .ok (.putfield 1, 3) := by decide +kernel
theorem dX12_rights_5 : decode cX12_rights 5 = .ok (.aload_n 0, 1) := by decide +kernel
theorem dX12_rights_6 : decode cX12_rights 6 = .ok (.iload_n 1, 1) := by decide +kernel
theorem dX12_rights_7 : decode cX12_rights 7 = .ok (.invokevirtual 131, 3) := by decide +kernel
theorem dX12_rights_10 : decode cX12_rights 10 = .ok (.ifCond .ne 6, 3) := by decide +kernel
theorem dX12_rights_13 : decode cX12_rights 13 = .ok (.bipush (-2), 2) := by decide +kernel
theorem dX12_rights_15 : decode cX12_rights 15 = .ok (.ireturn, 1) := by decide +kernel
theorem dX12_rights_16 : decode cX12_rights 16 = .ok (.iload_n 2, 1) := by decide +kernel
theorem dX12_rights_17 : decode cX12_rights 17 = .ok (.i2l, 1) := by decide +kernel
theorem dX12_rights_18 : decode cX12_rights 18 = .ok (.lconst 1, 1) := by decide +kernel
theorem dX12_rights_19 : decode cX12_rights 19 = .ok (.ldc2_w 136, 3) := by decide +kernel
theorem dX12_rights_22 : decode cX12_rights 22 = .ok (.invokestatic 77, 3) := by decide +kernel
theorem dX12_rights_25 : decode cX12_rights 25 = .ok (.ifCond .eq 8, 3) := by decide +kernel
theorem dX12_rights_28 : decode cX12_rights 28 = .ok (.iload_n 3, 1) := by decide +kernel
theorem dX12_rights_29 : decode cX12_rights 29 = .ok (.iconst (-1), 1) := by decide +kernel
theorem dX12_rights_30 : decode cX12_rights 30 = .ok (.if_icmp .ge 6, 3) := by decide +kernel
theorem dX12_rights_33 : decode cX12_rights 33 = .ok (.bipush (-3), 2) := by decide +kernel
theorem dX12_rights_35 : decode cX12_rights 35 = .ok (.ireturn, 1) := by decide +kernel
theorem dX12_rights_36 : decode cX12_rights 36 = .ok (.iconst 0, 1) := by decide +kernel
theorem dX12_rights_37 : decode cX12_rights 37 = .ok (.istore 4, 2) := by decide +kernel
theorem dX12_rights_39 : decode cX12_rights 39 = .ok (.iload_n 1, 1) := by decide +kernel
theorem dX12_rights_40 : decode cX12_rights 40 = .ok (.istore 5, 2) := by decide +kernel
theorem dX12_rights_42 : decode cX12_rights 42 = .ok (.iload 5, 2) := by decide +kernel
theorem dX12_rights_44 : decode cX12_rights 44 = .ok (.iload_n 1, 1) := by decide +kernel
theorem dX12_rights_45 : decode cX12_rights 45 = .ok (.iload_n 2, 1) := by decide +kernel
theorem dX12_rights_46 : decode cX12_rights 46 = .ok (.iadd, 1) := by decide +kernel
theorem dX12_rights_47 : decode cX12_rights 47 = .ok (.if_icmp .ge 33, 3) := by decide +kernel
theorem dX12_rights_50 : decode cX12_rights 50 = .ok (.aload_n 0, 1) := by decide +kernel
theorem dX12_rights_51 : decode cX12_rights 51 = .ok (.iload 5, 2) := by decide +kernel
theorem dX12_rights_53 : decode cX12_rights 53 = .ok (.invokevirtual 221, 3) := by decide +kernel
theorem dX12_rights_56 : decode cX12_rights 56 = .ok (.ifCond .ne 6, 3) := by decide +kernel
theorem dX12_rights_59 : decode cX12_rights 59 = .ok (.goto 15, 3) := by decide +kernel
theorem dX12_rights_62 : decode cX12_rights 62 = .ok (.iload 4, 2) := by decide +kernel
theorem dX12_rights_64 : decode cX12_rights 64 = .ok (.iload_n 3, 1) := by decide +kernel
theorem dX12_rights_65 : decode cX12_rights 65 = .ok (.if_icmp .ne 6, 3) := by decide +kernel
theorem dX12_rights_68 : decode cX12_rights 68 = .ok (.iload 5, 2) := by decide +kernel
theorem dX12_rights_70 : decode cX12_rights 70 = .ok (.ireturn, 1) := by decide +kernel
theorem dX12_rights_71 : decode cX12_rights 71 = .ok (.iinc 4 1, 3) := by decide +kernel
theorem dX12_rights_74 : decode cX12_rights 74 = .ok (.iinc 5 1, 3) := by decide +kernel
theorem dX12_rights_77 : decode cX12_rights 77 = .ok (.goto (-35), 3) := by decide +kernel
theorem dX12_rights_80 : decode cX12_rights 80 = .ok (.iload_n 3, 1) := by decide +kernel
theorem dX12_rights_81 : decode cX12_rights 81 = .ok (.iconst (-1), 1) := by decide +kernel
theorem dX12_rights_82 : decode cX12_rights 82 = .ok (.if_icmp .ne 8, 3) := by decide +kernel
theorem dX12_rights_85 : decode cX12_rights 85 = .ok (.iload 4, 2) := by decide +kernel
theorem dX12_rights_87 : decode cX12_rights 87 = .ok (.goto 4, 3) := by decide +kernel
theorem dX12_rights_90 : decode cX12_rights 90 = .ok (.iconst (-1), 1) := by decide +kernel
theorem dX12_rights_91 : decode cX12_rights 91 = .ok (.ireturn, 1) := by decide +kernel
theorem dX12_phase_0 : decode cX12_phase 0 = .ok (.aload_n 0, 1) := by decide +kernel
theorem dX12_phase_1 : decode cX12_phase 1 = .ok (.iconst 0, 1) := by decide +kernel
theorem dX12_phase_2 : decode cX12_phase 2 = .ok (.putfield 1, 3) := by decide +kernel
theorem dX12_phase_5 : decode cX12_phase 5 = .ok (.iload_n 1, 1) := by decide +kernel
theorem dX12_phase_6 : decode cX12_phase 6 = .ok (.i2l, 1) := by decide +kernel
theorem dX12_phase_7 : decode cX12_phase 7 = .ok (.lconst 0, 1) := by decide +kernel
theorem dX12_phase_8 : decode cX12_phase 8 = .ok (.lconst 1, 1) := by decide +kernel
theorem dX12_phase_9 : decode cX12_phase 9 = .ok (.invokestatic 77, 3) := by decide +kernel
theorem dX12_phase_12 : decode cX12_phase 12 = .ok (.ifCond .ne 6, 3) := by decide +kernel
theorem dX12_phase_15 : decode cX12_phase 15 = .ok (.bipush (-2), 2) := by decide +kernel
theorem dX12_phase_17 : decode cX12_phase 17 = .ok (.ireturn, 1) := by decide +kernel
theorem dX12_phase_18 : decode cX12_phase 18 = .ok (.iconst 0, 1) := by decide +kernel
theorem dX12_phase_19 : decode cX12_phase 19 = .ok (.istore_n 2, 1) := by decide +kernel
theorem dX12_phase_20 : decode cX12_phase 20 = .ok (.iload_n 2, 1) := by decide +kernel
theorem dX12_phase_21 : decode cX12_phase 21 = .ok (.sipush 424, 3) := by decide +kernel
theorem dX12_phase_24 : decode cX12_phase 24 = .ok (.if_icmp .ge 16, 3) := by decide +kernel
theorem dX12_phase_27 : decode cX12_phase 27 = .ok (.aload_n 0, 1) := by decide +kernel
theorem dX12_phase_28 : decode cX12_phase 28 = .ok (.getfield 48, 3) := by decide +kernel
theorem dX12_phase_31 : decode cX12_phase 31 = .ok (.iload_n 2, 1) := by decide +kernel
theorem dX12_phase_32 : decode cX12_phase 32 = .ok (.iconst 0, 1) := by decide +kernel
theorem dX12_phase_33 : decode cX12_phase 33 = .ok (.iastore, 1) := by decide +kernel
theorem dX12_phase_34 : decode cX12_phase 34 = .ok (.iinc 2 1, 3) := by decide +kernel
theorem dX12_phase_37 : decode cX12_phase 37 = .ok (.goto (-17), 3) := by decide +kernel
theorem dX12_phase_40 : decode cX12_phase 40 = .ok (.aload_n 0, 1) := by decide +kernel
theorem dX12_phase_41 : decode cX12_phase 41 = .ok (.getfield 32, 3) := by decide +kernel
theorem dX12_phase_44 : decode cX12_phase 44 = .ok (.iconst 0, 1) := by decide +kernel
theorem dX12_phase_45 : decode cX12_phase 45 = .ok (.iaload, 1) := by decide +kernel
theorem dX12_phase_46 : decode cX12_phase 46 = .ok (.istore_n 2, 1) := by decide +kernel
theorem dX12_phase_47 : decode cX12_phase 47 = .ok (.iload_n 2, 1) := by decide +kernel
theorem dX12_phase_48 : decode cX12_phase 48 = .ok (.aload_n 0, 1) := by decide +kernel
theorem dX12_phase_49 : decode cX12_phase 49 = .ok (.getfield 64, 3) := by decide +kernel
theorem dX12_phase_52 : decode cX12_phase 52 = .ok (.if_icmp .ge 39, 3) := by decide +kernel
theorem dX12_phase_55 : decode cX12_phase 55 = .ok (.aload_n 0, 1) := by decide +kernel
theorem dX12_phase_56 : decode cX12_phase 56 = .ok (.iload_n 2, 1) := by decide +kernel
theorem dX12_phase_57 : decode cX12_phase 57 = .ok (.invokevirtual 221, 3) := by decide +kernel
theorem dX12_phase_60 : decode cX12_phase 60 = .ok (.ifCond .eq 25, 3) := by decide +kernel
theorem dX12_phase_63 : decode cX12_phase 63 = .ok (.aload_n 0, 1) := by decide +kernel
theorem dX12_phase_64 : decode cX12_phase 64 = .ok (.getfield 48, 3) := by decide +kernel
theorem dX12_phase_67 : decode cX12_phase 67 = .ok (.iload_n 2, 1) := by decide +kernel
theorem dX12_phase_68 : decode cX12_phase 68 = .ok (.aload_n 0, 1) := by decide +kernel
theorem dX12_phase_69 : decode cX12_phase 69 = .ok (.getfield 32, 3) := by decide +kernel
theorem dX12_phase_72 : decode cX12_phase 72 = .ok (.iconst 0, 1) := by decide +kernel
theorem dX12_phase_73 : decode cX12_phase 73 = .ok (.iaload, 1) := by decide +kernel
theorem dX12_phase_74 : decode cX12_phase 74 = .ok (.isub, 1) := by decide +kernel
theorem dX12_phase_75 : decode cX12_phase 75 = .ok (.aload_n 0, 1) := by decide +kernel
theorem dX12_phase_76 : decode cX12_phase 76 = .ok (.invokevirtual 115, 3) := by decide +kernel
theorem dX12_phase_79 : decode cX12_phase 79 = .ok (.irem, 1) := by decide +kernel
theorem dX12_phase_80 : decode cX12_phase 80 = .ok (.dup2, 1) := by decide +kernel
theorem dX12_phase_81 : decode cX12_phase 81 = .ok (.iaload, 1) := by decide +kernel
theorem dX12_phase_82 : decode cX12_phase 82 = .ok (.iconst 1, 1) := by decide +kernel
theorem dX12_phase_83 : decode cX12_phase 83 = .ok (.iadd, 1) := by decide +kernel
theorem dX12_phase_84 : decode cX12_phase 84 = .ok (.iastore, 1) := by decide +kernel
theorem dX12_phase_85 : decode cX12_phase 85 = .ok (.iinc 2 1, 3) := by decide +kernel
theorem dX12_phase_88 : decode cX12_phase 88 = .ok (.goto (-41), 3) := by decide +kernel
theorem dX12_phase_91 : decode cX12_phase 91 = .ok (.iconst 0, 1) := by decide +kernel
theorem dX12_phase_92 : decode cX12_phase 92 = .ok (.istore_n 2, 1) := by decide +kernel
theorem dX12_phase_93 : decode cX12_phase 93 = .ok (.iconst 1, 1) := by decide +kernel
theorem dX12_phase_94 : decode cX12_phase 94 = .ok (.istore_n 3, 1) := by decide +kernel
theorem dX12_phase_95 : decode cX12_phase 95 = .ok (.iload_n 3, 1) := by decide +kernel
theorem dX12_phase_96 : decode cX12_phase 96 = .ok (.sipush 424, 3) := by decide +kernel
theorem dX12_phase_99 : decode cX12_phase 99 = .ok (.if_icmp .ge 30, 3) := by decide +kernel
theorem dX12_phase_102 : decode cX12_phase 102 = .ok (.aload_n 0, 1) := by decide +kernel
theorem dX12_phase_103 : decode cX12_phase 103 = .ok (.getfield 48, 3) := by decide +kernel
theorem dX12_phase_106 : decode cX12_phase 106 = .ok (.iload_n 3, 1) := by decide +kernel
theorem dX12_phase_107 : decode cX12_phase 107 = .ok (.iaload, 1) := by decide +kernel
theorem dX12_phase_108 : decode cX12_phase 108 = .ok (.aload_n 0, 1) := by decide +kernel
theorem dX12_phase_109 : decode cX12_phase 109 = .ok (.getfield 48, 3) := by decide +kernel
theorem dX12_phase_112 : decode cX12_phase 112 = .ok (.iload_n 2, 1) := by decide +kernel
theorem dX12_phase_113 : decode cX12_phase 113 = .ok (.iaload, 1) := by decide +kernel
theorem dX12_phase_114 : decode cX12_phase 114 = .ok (.if_icmp .le 7, 3) := by decide +kernel
theorem dX12_phase_117 : decode cX12_phase 117 = .ok (.iload_n 3, 1) := by decide +kernel
theorem dX12_phase_118 : decode cX12_phase 118 = .ok (.goto 4, 3) := by decide +kernel
theorem dX12_phase_121 : decode cX12_phase 121 = .ok (.iload_n 2, 1) := by decide +kernel
theorem dX12_phase_122 : decode cX12_phase 122 = .ok (.istore_n 2, 1) := by decide +kernel
theorem dX12_phase_123 : decode cX12_phase 123 = .ok (.iinc 3 1, 3) := by decide +kernel
theorem dX12_phase_126 : decode cX12_phase 126 = .ok (.goto (-31), 3) := by decide +kernel
theorem dX12_phase_129 : decode cX12_phase 129 = .ok (.aload_n 0, 1) := by decide +kernel
theorem dX12_phase_130 : decode cX12_phase 130 = .ok (.getfield 48, 3) := by decide +kernel
theorem dX12_phase_133 : decode cX12_phase 133 = .ok (.iload_n 2, 1) := by decide +kernel
theorem dX12_phase_134 : decode cX12_phase 134 = .ok (.iaload, 1) := by decide +kernel
theorem dX12_phase_135 : decode cX12_phase 135 = .ok (.ifCond .ne 7, 3) := by decide +kernel
theorem dX12_phase_138 : decode cX12_phase 138 = .ok (.iconst (-1), 1) := by decide +kernel
theorem dX12_phase_139 : decode cX12_phase 139 = .ok (.goto 17, 3) := by decide +kernel
theorem dX12_phase_142 : decode cX12_phase 142 = .ok (.iload_n 1, 1) := by decide +kernel
theorem dX12_phase_143 : decode cX12_phase 143 = .ok (.ifCond .ne 7, 3) := by decide +kernel
theorem dX12_phase_146 : decode cX12_phase 146 = .ok (.iload_n 2, 1) := by decide +kernel
theorem dX12_phase_147 : decode cX12_phase 147 = .ok (.goto 9, 3) := by decide +kernel
theorem dX12_phase_150 : decode cX12_phase 150 = .ok (.aload_n 0, 1) := by decide +kernel
theorem dX12_phase_151 : decode cX12_phase 151 = .ok (.getfield 48, 3) := by decide +kernel
theorem dX12_phase_154 : decode cX12_phase 154 = .ok (.iload_n 2, 1) := by decide +kernel
theorem dX12_phase_155 : decode cX12_phase 155 = .ok (.iaload, 1) := by decide +kernel
theorem dX12_phase_156 : decode cX12_phase 156 = .ok (.ireturn, 1) := by decide +kernel
theorem dX12_tuned_0 : decode cX12_tuned 0 = .ok (.aload_n 0, 1) := by decide +kernel
theorem dX12_tuned_1 : decode cX12_tuned 1 = .ok (.iconst 0, 1) := by decide +kernel
theorem dX12_tuned_2 : decode cX12_tuned 2 = .ok (.putfield 1, 3) := by decide +kernel
theorem dX12_tuned_5 : decode cX12_tuned 5 = .ok (.iload_n 1, 1) := by decide +kernel
theorem dX12_tuned_6 : decode cX12_tuned 6 = .ok (.i2l, 1) := by decide +kernel
theorem dX12_tuned_7 : decode cX12_tuned 7 = .ok (.lconst 1, 1) := by decide +kernel
theorem dX12_tuned_8 : decode cX12_tuned 8 = .ok (.ldc2_w 207, 3) := by decide +kernel
theorem dX12_tuned_11 : decode cX12_tuned 11 = .ok (.invokestatic 77, 3) := by decide +kernel
theorem dX12_tuned_14 : decode cX12_tuned 14 = .ok (.ifCond .ne 6, 3) := by decide +kernel
theorem dX12_tuned_17 : decode cX12_tuned 17 = .ok (.bipush (-2), 2) := by decide +kernel
theorem dX12_tuned_19 : decode cX12_tuned 19 = .ok (.ireturn, 1) := by decide +kernel
theorem dX12_tuned_20 : decode cX12_tuned 20 = .ok (.aload_n 0, 1) := by decide +kernel
theorem dX12_tuned_21 : decode cX12_tuned 21 = .ok (.getfield 13, 3) := by decide +kernel
theorem dX12_tuned_24 : decode cX12_tuned 24 = .ok (.iload_n 1, 1) := by decide +kernel
theorem dX12_tuned_25 : decode cX12_tuned 25 = .ok (.iaload, 1) := by decide +kernel
theorem dX12_tuned_26 : decode cX12_tuned 26 = .ok (.istore_n 2, 1) := by decide +kernel
theorem dX12_tuned_27 : decode cX12_tuned 27 = .ok (.iconst (-1), 1) := by decide +kernel
theorem dX12_tuned_28 : decode cX12_tuned 28 = .ok (.istore_n 3, 1) := by decide +kernel
theorem dX12_tuned_29 : decode cX12_tuned 29 = .ok (.iconst 0, 1) := by decide +kernel
theorem dX12_tuned_30 : decode cX12_tuned 30 = .ok (.istore 4, 2) := by decide +kernel
theorem dX12_tuned_32 : decode cX12_tuned 32 = .ok (.aload_n 0, 1) := by decide +kernel
theorem dX12_tuned_33 : decode cX12_tuned 33 = .ok (.getfield 17, 3) := by decide +kernel
theorem dX12_tuned_36 : decode cX12_tuned 36 = .ok (.iload_n 1, 1) := by decide +kernel
theorem dX12_tuned_37 : decode cX12_tuned 37 = .ok (.iaload, 1) := by decide +kernel
theorem dX12_tuned_38 : decode cX12_tuned 38 = .ok (.istore 5, 2) := by decide +kernel
theorem dX12_tuned_40 : decode cX12_tuned 40 = .ok (.iload 5, 2) := by decide +kernel
theorem dX12_tuned_42 : decode cX12_tuned 42 = .ok (.aload_n 0, 1) := by decide +kernel
theorem dX12_tuned_43 : decode cX12_tuned 43 = .ok (.getfield 20, 3) := by decide +kernel
theorem dX12_tuned_46 : decode cX12_tuned 46 = .ok (.iload_n 1, 1) := by decide +kernel
theorem dX12_tuned_47 : decode cX12_tuned 47 = .ok (.iaload, 1) := by decide +kernel
theorem dX12_tuned_48 : decode cX12_tuned 48 = .ok (.if_icmp .gt 73, 3) := by decide +kernel
theorem dX12_tuned_51 : decode cX12_tuned 51 = .ok (.aload_n 0, 1) := by decide +kernel
theorem dX12_tuned_52 : decode cX12_tuned 52 = .ok (.getfield 13, 3) := by decide +kernel
theorem dX12_tuned_55 : decode cX12_tuned 55 = .ok (.iload_n 1, 1) := by decide +kernel
theorem dX12_tuned_56 : decode cX12_tuned 56 = .ok (.iload 5, 2) := by decide +kernel
theorem dX12_tuned_58 : decode cX12_tuned 58 = .ok (.iastore, 1) := by decide +kernel
theorem dX12_tuned_59 : decode cX12_tuned 59 = .ok (.aload_n 0, 1) := by decide +kernel
theorem dX12_tuned_60 : decode cX12_tuned 60 = .ok (.invokevirtual 210, 3) := by decide +kernel
theorem dX12_tuned_63 : decode cX12_tuned 63 = .ok (.aload_n 0, 1) := by decide +kernel
theorem dX12_tuned_64 : decode cX12_tuned 64 = .ok (.sipush 9600, 3) := by decide +kernel
theorem dX12_tuned_67 : decode cX12_tuned 67 = .ok (.invokevirtual 188, 3) := by decide +kernel
theorem dX12_tuned_70 : decode cX12_tuned 70 = .ok (.aload_n 0, 1) := by decide +kernel
theorem dX12_tuned_71 : decode cX12_tuned 71 = .ok (.getfield 32, 3) := by decide +kernel
theorem dX12_tuned_74 : decode cX12_tuned 74 = .ok (.bipush 16, 2) := by decide +kernel
theorem dX12_tuned_76 : decode cX12_tuned 76 = .ok (.iaload, 1) := by decide +kernel
theorem dX12_tuned_77 : decode cX12_tuned 77 = .ok (.iconst 2, 1) := by decide +kernel
theorem dX12_tuned_78 : decode cX12_tuned 78 = .ok (.aload_n 0, 1) := by decide +kernel
theorem dX12_tuned_79 : decode cX12_tuned 79 = .ok (.getfield 32, 3) := by decide +kernel
theorem dX12_tuned_82 : decode cX12_tuned 82 = .ok (.bipush 22, 2) := by decide +kernel
theorem dX12_tuned_84 : decode cX12_tuned 84 = .ok (.iaload, 1) := by decide +kernel
theorem dX12_tuned_85 : decode cX12_tuned 85 = .ok (.imul, 1) := by decide +kernel
theorem dX12_tuned_86 : decode cX12_tuned 86 = .ok (.isub, 1) := by decide +kernel
theorem dX12_tuned_87 : decode cX12_tuned 87 = .ok (.istore 6, 2) := by decide +kernel
theorem dX12_tuned_89 : decode cX12_tuned 89 = .ok (.aload_n 0, 1) := by decide +kernel
theorem dX12_tuned_90 : decode cX12_tuned 90 = .ok (.invokevirtual 213, 3) := by decide +kernel
theorem dX12_tuned_93 : decode cX12_tuned 93 = .ok (.iload_n 3, 1) := by decide +kernel
theorem dX12_tuned_94 : decode cX12_tuned 94 = .ok (.iconst (-1), 1) := by decide +kernel
theorem dX12_tuned_95 : decode cX12_tuned 95 = .ok (.if_icmp .eq 13, 3) := by decide +kernel
theorem dX12_tuned_98 : decode cX12_tuned 98 = .ok (.iload 6, 2) := by decide +kernel
theorem dX12_tuned_100 : decode cX12_tuned 100 = .ok (.iload 4, 2) := by decide +kernel
theorem dX12_tuned_102 : decode cX12_tuned 102 = .ok (.if_icmp .gt 6, 3) := by decide +kernel
theorem dX12_tuned_105 : decode cX12_tuned 105 = .ok (.goto 10, 3) := by decide +kernel
theorem dX12_tuned_108 : decode cX12_tuned 108 = .ok (.iload 5, 2) := by decide +kernel
theorem dX12_tuned_110 : decode cX12_tuned 110 = .ok (.istore_n 3, 1) := by decide +kernel
theorem dX12_tuned_111 : decode cX12_tuned 111 = .ok (.iload 6, 2) := by decide +kernel
theorem dX12_tuned_113 : decode cX12_tuned 113 = .ok (.istore 4, 2) := by decide +kernel
theorem dX12_tuned_115 : decode cX12_tuned 115 = .ok (.iinc 5 1, 3) := by decide +kernel
theorem dX12_tuned_118 : decode cX12_tuned 118 = .ok (.goto (-78), 3) := by decide +kernel
theorem dX12_tuned_121 : decode cX12_tuned 121 = .ok (.aload_n 0, 1) := by decide +kernel
theorem dX12_tuned_122 : decode cX12_tuned 122 = .ok (.getfield 13, 3) := by decide +kernel
theorem dX12_tuned_125 : decode cX12_tuned 125 = .ok (.iload_n 1, 1) := by decide +kernel
theorem dX12_tuned_126 : decode cX12_tuned 126 = .ok (.iload_n 2, 1) := by decide +kernel
theorem dX12_tuned_127 : decode cX12_tuned 127 = .ok (.iastore, 1) := by decide +kernel
theorem dX12_tuned_128 : decode cX12_tuned 128 = .ok (.iload_n 3, 1) := by decide +kernel
theorem dX12_tuned_129 : decode cX12_tuned 129 = .ok (.ireturn, 1) := by decide +kernel
theorem dX12_starts_0 : decode cX12_starts 0 = .ok (.aload_n 0, 1) := by decide +kernel
theorem dX12_starts_1 : decode cX12_starts 1 = .ok (.iconst 0, 1) := by decide +kernel
theorem dX12_starts_2 : decode cX12_starts 2 = .ok (.putfield 1, 3) := by decide +kernel
theorem dX12_starts_5 : decode cX12_starts 5 = .ok (.iload_n 1, 1) := by decide +kernel
theorem dX12_starts_6 : decode cX12_starts 6 = .ok (.i2l, 1) := by decide +kernel
theorem dX12_starts_7 : decode cX12_starts 7 = .ok (.lconst 0, 1) := by decide +kernel
theorem dX12_starts_8 : decode cX12_starts 8 = .ok (.ldc2_w 207, 3) := by decide +kernel
theorem dX12_starts_11 : decode cX12_starts 11 = .ok (.invokestatic 77, 3) := by decide +kernel
theorem dX12_starts_14 : decode cX12_starts 14 = .ok (.ifCond .ne 6, 3) := by decide +kernel
theorem dX12_starts_17 : decode cX12_starts 17 = .ok (.bipush (-2), 2) := by decide +kernel
theorem dX12_starts_19 : decode cX12_starts 19 = .ok (.ireturn, 1) := by decide +kernel
theorem dX12_starts_20 : decode cX12_starts 20 = .ok (.iconst 0, 1) := by decide +kernel
theorem dX12_starts_21 : decode cX12_starts 21 = .ok (.istore_n 2, 1) := by decide +kernel
theorem dX12_starts_22 : decode cX12_starts 22 = .ok (.iconst 0, 1) := by decide +kernel
theorem dX12_starts_23 : decode cX12_starts 23 = .ok (.istore_n 3, 1) := by decide +kernel
theorem dX12_starts_24 : decode cX12_starts 24 = .ok (.iconst 0, 1) := by decide +kernel
theorem dX12_starts_25 : decode cX12_starts 25 = .ok (.istore 4, 2) := by decide +kernel
theorem dX12_starts_27 : decode cX12_starts 27 = .ok (.iconst 0, 1) := by decide +kernel
theorem dX12_starts_28 : decode cX12_starts 28 = .ok (.istore 5, 2) := by decide +kernel
theorem dX12_starts_30 : decode cX12_starts 30 = .ok (.iconst 0, 1) := by decide +kernel
theorem dX12_starts_31 : decode cX12_starts 31 = .ok (.istore 6, 2) := by decide +kernel
theorem dX12_starts_33 : decode cX12_starts 33 = .ok (.iload 6, 2) := by decide +kernel
theorem dX12_starts_35 : decode cX12_starts 35 = .ok (.bipush 64, 2) := by decide +kernel
theorem dX12_starts_37 : decode cX12_starts 37 = .ok (.if_icmp .ge 177, 3) := by decide +kernel
theorem dX12_starts_40 : decode cX12_starts 40 = .ok (.aload_n 0, 1) := by decide +kernel
theorem dX12_starts_41 : decode cX12_starts 41 = .ok (.getfield 32, 3) := by decide +kernel
theorem dX12_starts_44 : decode cX12_starts 44 = .ok (.iconst 0, 1) := by decide +kernel
theorem dX12_starts_45 : decode cX12_starts 45 = .ok (.iaload, 1) := by decide +kernel
theorem dX12_starts_46 : decode cX12_starts 46 = .ok (.iload 6, 2) := by decide +kernel
theorem dX12_starts_48 : decode cX12_starts 48 = .ok (.iadd, 1) := by decide +kernel
theorem dX12_starts_49 : decode cX12_starts 49 = .ok (.aload_n 0, 1) := by decide +kernel
theorem dX12_starts_50 : decode cX12_starts 50 = .ok (.getfield 64, 3) := by decide +kernel
theorem dX12_starts_53 : decode cX12_starts 53 = .ok (.if_icmp .ge 161, 3) := by decide +kernel
theorem dX12_starts_56 : decode cX12_starts 56 = .ok (.aload_n 0, 1) := by decide +kernel
theorem dX12_starts_57 : decode cX12_starts 57 = .ok (.invokevirtual 210, 3) := by decide +kernel
theorem dX12_starts_60 : decode cX12_starts 60 = .ok (.aload_n 0, 1) := by decide +kernel
theorem dX12_starts_61 : decode cX12_starts 61 = .ok (.invokevirtual 191, 3) := by decide +kernel
theorem dX12_starts_64 : decode cX12_starts 64 = .ok (.aload_n 0, 1) := by decide +kernel
theorem dX12_starts_65 : decode cX12_starts 65 = .ok (.getfield 32, 3) := by decide +kernel
theorem dX12_starts_68 : decode cX12_starts 68 = .ok (.iconst 0, 1) := by decide +kernel
theorem dX12_starts_69 : decode cX12_starts 69 = .ok (.dup2, 1) := by decide +kernel
theorem dX12_starts_70 : decode cX12_starts 70 = .ok (.iaload, 1) := by decide +kernel
theorem dX12_starts_71 : decode cX12_starts 71 = .ok (.iload 6, 2) := by decide +kernel
theorem dX12_starts_73 : decode cX12_starts 73 = .ok (.iadd, 1) := by decide +kernel
theorem dX12_starts_74 : decode cX12_starts 74 = .ok (.iastore, 1) := by decide +kernel
theorem dX12_starts_75 : decode cX12_starts 75 = .ok (.iconst 0, 1) := by decide +kernel
theorem dX12_starts_76 : decode cX12_starts 76 = .ok (.istore 7, 2) := by decide +kernel
theorem dX12_starts_78 : decode cX12_starts 78 = .ok (.aload_n 0, 1) := by decide +kernel
theorem dX12_starts_79 : decode cX12_starts 79 = .ok (.getfield 32, 3) := by decide +kernel
theorem dX12_starts_82 : decode cX12_starts 82 = .ok (.iconst 1, 1) := by decide +kernel
theorem dX12_starts_83 : decode cX12_starts 83 = .ok (.iaload, 1) := by decide +kernel
theorem dX12_starts_84 : decode cX12_starts 84 = .ok (.iconst 2, 1) := by decide +kernel
theorem dX12_starts_85 : decode cX12_starts 85 = .ok (.if_icmp .eq 58, 3) := by decide +kernel
theorem dX12_starts_88 : decode cX12_starts 88 = .ok (.aload_n 0, 1) := by decide +kernel
theorem dX12_starts_89 : decode cX12_starts 89 = .ok (.getfield 32, 3) := by decide +kernel
theorem dX12_starts_92 : decode cX12_starts 92 = .ok (.iconst 0, 1) := by decide +kernel
theorem dX12_starts_93 : decode cX12_starts 93 = .ok (.iaload, 1) := by decide +kernel
theorem dX12_starts_94 : decode cX12_starts 94 = .ok (.aload_n 0, 1) := by decide +kernel
theorem dX12_starts_95 : decode cX12_starts 95 = .ok (.getfield 64, 3) := by decide +kernel
theorem dX12_starts_98 : decode cX12_starts 98 = .ok (.if_icmp .ge 45, 3) := by decide +kernel
theorem dX12_starts_101 : decode cX12_starts 101 = .ok (.aload_n 0, 1) := by decide +kernel
theorem dX12_starts_102 : decode cX12_starts 102 = .ok (.getfield 32, 3) := by decide +kernel
theorem dX12_starts_105 : decode cX12_starts 105 = .ok (.iconst 1, 1) := by decide +kernel
theorem dX12_starts_106 : decode cX12_starts 106 = .ok (.iaload, 1) := by decide +kernel
theorem dX12_starts_107 : decode cX12_starts 107 = .ok (.istore 8, 2) := by decide +kernel
theorem dX12_starts_109 : decode cX12_starts 109 = .ok (.aload_n 0, 1) := by decide +kernel
theorem dX12_starts_110 : decode cX12_starts 110 = .ok (.invokevirtual 183, 3) := by decide +kernel
theorem dX12_starts_113 : decode cX12_starts 113 = .ok (.iload 7, 2) := by decide +kernel
theorem dX12_starts_115 : decode cX12_starts 115 = .ok (.ifCond .ne 18, 3) := by decide +kernel
theorem dX12_starts_118 : decode cX12_starts 118 = .ok (.iload 8, 2) := by decide +kernel
theorem dX12_starts_120 : decode cX12_starts 120 = .ok (.iconst 1, 1) := by decide +kernel
theorem dX12_starts_121 : decode cX12_starts 121 = .ok (.if_icmp .ne 16, 3) := by decide +kernel
theorem dX12_starts_124 : decode cX12_starts 124 = .ok (.aload_n 0, 1) := by decide +kernel
theorem dX12_starts_125 : decode cX12_starts 125 = .ok (.getfield 32, 3) := by decide +kernel
theorem dX12_starts_128 : decode cX12_starts 128 = .ok (.iconst 1, 1) := by decide +kernel
theorem dX12_starts_129 : decode cX12_starts 129 = .ok (.iaload, 1) := by decide +kernel
theorem dX12_starts_130 : decode cX12_starts 130 = .ok (.ifCond .ne 7, 3) := by decide +kernel
theorem dX12_starts_133 : decode cX12_starts 133 = .ok (.iconst 1, 1) := by decide +kernel
theorem dX12_starts_134 : decode cX12_starts 134 = .ok (.goto 4, 3) := by decide +kernel
theorem dX12_starts_137 : decode cX12_starts 137 = .ok (.iconst 0, 1) := by decide +kernel
theorem dX12_starts_138 : decode cX12_starts 138 = .ok (.istore 7, 2) := by decide +kernel
theorem dX12_starts_140 : decode cX12_starts 140 = .ok (.goto (-62), 3) := by decide +kernel
theorem dX12_starts_143 : decode cX12_starts 143 = .ok (.aload_n 0, 1) := by decide +kernel
theorem dX12_starts_144 : decode cX12_starts 144 = .ok (.getfield 32, 3) := by decide +kernel
theorem dX12_starts_147 : decode cX12_starts 147 = .ok (.iconst 1, 1) := by decide +kernel
theorem dX12_starts_148 : decode cX12_starts 148 = .ok (.iaload, 1) := by decide +kernel
theorem dX12_starts_149 : decode cX12_starts 149 = .ok (.iconst 2, 1) := by decide +kernel
theorem dX12_starts_150 : decode cX12_starts 150 = .ok (.if_icmp .ne 39, 3) := by decide +kernel
theorem dX12_starts_153 : decode cX12_starts 153 = .ok (.iinc 2 1, 3) := by decide +kernel
theorem dX12_starts_156 : decode cX12_starts 156 = .ok (.iload_n 3, 1) := by decide +kernel
theorem dX12_starts_157 : decode cX12_starts 157 = .ok (.aload_n 0, 1) := by decide +kernel
theorem dX12_starts_158 : decode cX12_starts 158 = .ok (.getfield 32, 3) := by decide +kernel
theorem dX12_starts_161 : decode cX12_starts 161 = .ok (.iconst 5, 1) := by decide +kernel
theorem dX12_starts_162 : decode cX12_starts 162 = .ok (.iaload, 1) := by decide +kernel
theorem dX12_starts_163 : decode cX12_starts 163 = .ok (.iadd, 1) := by decide +kernel
theorem dX12_starts_164 : decode cX12_starts 164 = .ok (.istore_n 3, 1) := by decide +kernel
theorem dX12_starts_165 : decode cX12_starts 165 = .ok (.aload_n 0, 1) := by decide +kernel
theorem dX12_starts_166 : decode cX12_starts 166 = .ok (.getfield 32, 3) := by decide +kernel
theorem dX12_starts_169 : decode cX12_starts 169 = .ok (.iconst 5, 1) := by decide +kernel
theorem dX12_starts_170 : decode cX12_starts 170 = .ok (.iaload, 1) := by decide +kernel
theorem dX12_starts_171 : decode cX12_starts 171 = .ok (.iload 4, 2) := by decide +kernel
theorem dX12_starts_173 : decode cX12_starts 173 = .ok (.if_icmp .le 12, 3) := by decide +kernel
theorem dX12_starts_176 : decode cX12_starts 176 = .ok (.aload_n 0, 1) := by decide +kernel
theorem dX12_starts_177 : decode cX12_starts 177 = .ok (.getfield 32, 3) := by decide +kernel
theorem dX12_starts_180 : decode cX12_starts 180 = .ok (.iconst 5, 1) := by decide +kernel
theorem dX12_starts_181 : decode cX12_starts 181 = .ok (.iaload, 1) := by decide +kernel
theorem dX12_starts_182 : decode cX12_starts 182 = .ok (.goto 5, 3) := by decide +kernel
theorem dX12_starts_185 : decode cX12_starts 185 = .ok (.iload 4, 2) := by decide +kernel
theorem dX12_starts_187 : decode cX12_starts 187 = .ok (.istore 4, 2) := by decide +kernel
theorem dX12_starts_189 : decode cX12_starts 189 = .ok (.iload 5, 2) := by decide +kernel
theorem dX12_starts_191 : decode cX12_starts 191 = .ok (.iload 7, 2) := by decide +kernel
theorem dX12_starts_193 : decode cX12_starts 193 = .ok (.ifCond .eq 7, 3) := by decide +kernel
theorem dX12_starts_196 : decode cX12_starts 196 = .ok (.iconst 1, 1) := by decide +kernel
theorem dX12_starts_197 : decode cX12_starts 197 = .ok (.goto 4, 3) := by decide +kernel
theorem dX12_starts_200 : decode cX12_starts 200 = .ok (.iconst 0, 1) := by decide +kernel
theorem dX12_starts_201 : decode cX12_starts 201 = .ok (.iadd, 1) := by decide +kernel
theorem dX12_starts_202 : decode cX12_starts 202 = .ok (.istore 5, 2) := by decide +kernel
theorem dX12_starts_204 : decode cX12_starts 204 = .ok (.aload_n 0, 1) := by decide +kernel
theorem dX12_starts_205 : decode cX12_starts 205 = .ok (.invokevirtual 213, 3) := by decide +kernel
theorem dX12_starts_208 : decode cX12_starts 208 = .ok (.iinc 6 1, 3) := by decide +kernel
theorem dX12_starts_211 : decode cX12_starts 211 = .ok (.goto (-178), 3) := by decide +kernel
theorem dX12_starts_214 : decode cX12_starts 214 = .ok (.iload_n 1, 1) := by decide +kernel
theorem dX12_starts_215 : decode cX12_starts 215 = .ok (.ifCond .ne 7, 3) := by decide +kernel
theorem dX12_starts_218 : decode cX12_starts 218 = .ok (.iload_n 2, 1) := by decide +kernel
theorem dX12_starts_219 : decode cX12_starts 219 = .ok (.goto 24, 3) := by decide +kernel
theorem dX12_starts_222 : decode cX12_starts 222 = .ok (.iload_n 1, 1) := by decide +kernel
theorem dX12_starts_223 : decode cX12_starts 223 = .ok (.iconst 1, 1) := by decide +kernel
theorem dX12_starts_224 : decode cX12_starts 224 = .ok (.if_icmp .ne 7, 3) := by decide +kernel
theorem dX12_starts_227 : decode cX12_starts 227 = .ok (.iload_n 3, 1) := by decide +kernel
theorem dX12_starts_228 : decode cX12_starts 228 = .ok (.goto 15, 3) := by decide +kernel
theorem dX12_starts_231 : decode cX12_starts 231 = .ok (.iload_n 1, 1) := by decide +kernel
theorem dX12_starts_232 : decode cX12_starts 232 = .ok (.iconst 2, 1) := by decide +kernel
theorem dX12_starts_233 : decode cX12_starts 233 = .ok (.if_icmp .ne 8, 3) := by decide +kernel
theorem dX12_starts_236 : decode cX12_starts 236 = .ok (.iload 4, 2) := by decide +kernel
theorem dX12_starts_238 : decode cX12_starts 238 = .ok (.goto 5, 3) := by decide +kernel
theorem dX12_starts_241 : decode cX12_starts 241 = .ok (.iload 5, 2) := by decide +kernel
theorem dX12_starts_243 : decode cX12_starts 243 = .ok (.ireturn, 1) := by decide +kernel
theorem dX12_laysWays_0 : decode cX12_laysWays 0 = .ok (.aload_n 0, 1) := by decide +kernel
theorem dX12_laysWays_1 : decode cX12_laysWays 1 = .ok (.getfield 51, 3) := by decide +kernel
theorem dX12_laysWays_4 : decode cX12_laysWays 4 = .ok (.iconst 0, 1) := by decide +kernel
theorem dX12_laysWays_5 : decode cX12_laysWays 5 = .ok (.laload, 1) := by decide +kernel
theorem dX12_laysWays_6 : decode cX12_laysWays 6 = .ok (.lconst 1, 1) := by decide +kernel
theorem dX12_laysWays_7 : decode cX12_laysWays 7 = .ok (.lcmp, 1) := by decide +kernel
theorem dX12_laysWays_8 : decode cX12_laysWays 8 = .ok (.ifCond .ne 4, 3) := by decide +kernel
theorem dX12_laysWays_11 : decode cX12_laysWays 11 = .ok (.return_, 1) := by decide +kernel
theorem dX12_laysWays_12 : decode cX12_laysWays 12 = .ok (.aload_n 0, 1) := by decide +kernel
theorem dX12_laysWays_13 : decode cX12_laysWays 13 = .ok (.getfield 51, 3) := by decide +kernel
theorem dX12_laysWays_16 : decode cX12_laysWays 16 = .ok (.iconst 0, 1) := by decide +kernel
theorem dX12_laysWays_17 : decode cX12_laysWays 17 = .ok (.lconst 1, 1) := by decide +kernel
theorem dX12_laysWays_18 : decode cX12_laysWays 18 = .ok (.lastore, 1) := by decide +kernel
theorem dX12_laysWays_19 : decode cX12_laysWays 19 = .ok (.iconst 0, 1) := by decide +kernel
theorem dX12_laysWays_20 : decode cX12_laysWays 20 = .ok (.istore_n 1, 1) := by decide +kernel
theorem dX12_laysWays_21 : decode cX12_laysWays 21 = .ok (.iload_n 1, 1) := by decide +kernel
theorem dX12_laysWays_22 : decode cX12_laysWays 22 = .ok (.bipush 40, 2) := by decide +kernel
theorem dX12_laysWays_24 : decode cX12_laysWays 24 = .ok (.if_icmp .ge 104, 3) := by decide +kernel
theorem dX12_laysWays_27 : decode cX12_laysWays 27 = .ok (.iload_n 1, 1) := by decide +kernel
theorem dX12_laysWays_28 : decode cX12_laysWays 28 = .ok (.invokestatic 85, 3) := by decide +kernel
theorem dX12_laysWays_31 : decode cX12_laysWays 31 = .ok (.istore_n 2, 1) := by decide +kernel
theorem dX12_laysWays_32 : decode cX12_laysWays 32 = .ok (.iconst 0, 1) := by decide +kernel
theorem dX12_laysWays_33 : decode cX12_laysWays 33 = .ok (.istore_n 3, 1) := by decide +kernel
theorem dX12_laysWays_34 : decode cX12_laysWays 34 = .ok (.iload_n 3, 1) := by decide +kernel
theorem dX12_laysWays_35 : decode cX12_laysWays 35 = .ok (.sipush 10496, 3) := by decide +kernel
theorem dX12_laysWays_38 : decode cX12_laysWays 38 = .ok (.if_icmp .ge 57, 3) := by decide +kernel
theorem dX12_laysWays_41 : decode cX12_laysWays 41 = .ok (.aload_n 0, 1) := by decide +kernel
theorem dX12_laysWays_42 : decode cX12_laysWays 42 = .ok (.getfield 55, 3) := by decide +kernel
theorem dX12_laysWays_45 : decode cX12_laysWays 45 = .ok (.iload_n 3, 1) := by decide +kernel
theorem dX12_laysWays_46 : decode cX12_laysWays 46 = .ok (.aload_n 0, 1) := by decide +kernel
theorem dX12_laysWays_47 : decode cX12_laysWays 47 = .ok (.getfield 51, 3) := by decide +kernel
theorem dX12_laysWays_50 : decode cX12_laysWays 50 = .ok (.iload_n 3, 1) := by decide +kernel
theorem dX12_laysWays_51 : decode cX12_laysWays 51 = .ok (.laload, 1) := by decide +kernel
theorem dX12_laysWays_52 : decode cX12_laysWays 52 = .ok (.iload_n 3, 1) := by decide +kernel
theorem dX12_laysWays_53 : decode cX12_laysWays 53 = .ok (.sipush 256, 3) := by decide +kernel
theorem dX12_laysWays_56 : decode cX12_laysWays 56 = .ok (.if_icmp .ge 7, 3) := by decide +kernel
theorem dX12_laysWays_59 : decode cX12_laysWays 59 = .ok (.lconst 0, 1) := by decide +kernel
theorem dX12_laysWays_60 : decode cX12_laysWays 60 = .ok (.goto 27, 3) := by decide +kernel
theorem dX12_laysWays_63 : decode cX12_laysWays 63 = .ok (.aload_n 0, 1) := by decide +kernel
theorem dX12_laysWays_64 : decode cX12_laysWays 64 = .ok (.getfield 51, 3) := by decide +kernel
theorem dX12_laysWays_67 : decode cX12_laysWays 67 = .ok (.iload_n 3, 1) := by decide +kernel
theorem dX12_laysWays_68 : decode cX12_laysWays 68 = .ok (.sipush 256, 3) := by decide +kernel
theorem dX12_laysWays_71 : decode cX12_laysWays 71 = .ok (.idiv, 1) := by decide +kernel
theorem dX12_laysWays_72 : decode cX12_laysWays 72 = .ok (.iconst 1, 1) := by decide +kernel
theorem dX12_laysWays_73 : decode cX12_laysWays 73 = .ok (.isub, 1) := by decide +kernel
theorem dX12_laysWays_74 : decode cX12_laysWays 74 = .ok (.sipush 256, 3) := by decide +kernel
theorem dX12_laysWays_77 : decode cX12_laysWays 77 = .ok (.imul, 1) := by decide +kernel
theorem dX12_laysWays_78 : decode cX12_laysWays 78 = .ok (.iload_n 3, 1) := by decide +kernel
theorem dX12_laysWays_79 : decode cX12_laysWays 79 = .ok (.sipush 256, 3) := by decide +kernel
theorem dX12_laysWays_82 : decode cX12_laysWays 82 = .ok (.irem, 1) := by decide +kernel
theorem dX12_laysWays_83 : decode cX12_laysWays 83 = .ok (.iload_n 2, 1) := by decide +kernel
theorem dX12_laysWays_84 : decode cX12_laysWays 84 = .ok (.ixor, 1) := by decide +kernel
theorem dX12_laysWays_85 : decode cX12_laysWays 85 = .ok (.iadd, 1) := by decide +kernel
theorem dX12_laysWays_86 : decode cX12_laysWays 86 = .ok (.laload, 1) := by decide +kernel
theorem dX12_laysWays_87 : decode cX12_laysWays 87 = .ok (.ladd, 1) := by decide +kernel
theorem dX12_laysWays_88 : decode cX12_laysWays 88 = .ok (.lastore, 1) := by decide +kernel
theorem dX12_laysWays_89 : decode cX12_laysWays 89 = .ok (.iinc 3 1, 3) := by decide +kernel
theorem dX12_laysWays_92 : decode cX12_laysWays 92 = .ok (.goto (-58), 3) := by decide +kernel
theorem dX12_laysWays_95 : decode cX12_laysWays 95 = .ok (.iconst 0, 1) := by decide +kernel
theorem dX12_laysWays_96 : decode cX12_laysWays 96 = .ok (.istore_n 3, 1) := by decide +kernel
theorem dX12_laysWays_97 : decode cX12_laysWays 97 = .ok (.iload_n 3, 1) := by decide +kernel
theorem dX12_laysWays_98 : decode cX12_laysWays 98 = .ok (.sipush 10496, 3) := by decide +kernel
theorem dX12_laysWays_101 : decode cX12_laysWays 101 = .ok (.if_icmp .ge 21, 3) := by decide +kernel
theorem dX12_laysWays_104 : decode cX12_laysWays 104 = .ok (.aload_n 0, 1) := by decide +kernel
theorem dX12_laysWays_105 : decode cX12_laysWays 105 = .ok (.getfield 51, 3) := by decide +kernel
theorem dX12_laysWays_108 : decode cX12_laysWays 108 = .ok (.iload_n 3, 1) := by decide +kernel
theorem dX12_laysWays_109 : decode cX12_laysWays 109 = .ok (.aload_n 0, 1) := by decide +kernel
theorem dX12_laysWays_110 : decode cX12_laysWays 110 = .ok (.getfield 55, 3) := by decide +kernel
theorem dX12_laysWays_113 : decode cX12_laysWays 113 = .ok (.iload_n 3, 1) := by decide +kernel
theorem dX12_laysWays_114 : decode cX12_laysWays 114 = .ok (.laload, 1) := by decide +kernel
theorem dX12_laysWays_115 : decode cX12_laysWays 115 = .ok (.lastore, 1) := by decide +kernel
theorem dX12_laysWays_116 : decode cX12_laysWays 116 = .ok (.iinc 3 1, 3) := by decide +kernel
theorem dX12_laysWays_119 : decode cX12_laysWays 119 = .ok (.goto (-22), 3) := by decide +kernel
theorem dX12_laysWays_122 : decode cX12_laysWays 122 = .ok (.iinc 1 1, 3) := by decide +kernel
theorem dX12_laysWays_125 : decode cX12_laysWays 125 = .ok (.goto (-104), 3) := by decide +kernel
theorem dX12_laysWays_128 : decode cX12_laysWays 128 = .ok (.return_, 1) := by decide +kernel
theorem dX12_chosen_0 : decode cX12_chosen 0 = .ok (.lconst 1, 1) := by decide +kernel
theorem dX12_chosen_1 : decode cX12_chosen 1 = .ok (.lstore_n 1, 1) := by decide +kernel
theorem dX12_chosen_2 : decode cX12_chosen 2 = .ok (.iconst 1, 1) := by decide +kernel
theorem dX12_chosen_3 : decode cX12_chosen 3 = .ok (.istore_n 3, 1) := by decide +kernel
theorem dX12_chosen_4 : decode cX12_chosen 4 = .ok (.iload_n 3, 1) := by decide +kernel
theorem dX12_chosen_5 : decode cX12_chosen 5 = .ok (.iload_n 0, 1) := by decide +kernel
theorem dX12_chosen_6 : decode cX12_chosen 6 = .ok (.if_icmp .gt 20, 3) := by decide +kernel
theorem dX12_chosen_9 : decode cX12_chosen 9 = .ok (.lload_n 1, 1) := by decide +kernel
theorem dX12_chosen_10 : decode cX12_chosen 10 = .ok (.bipush 41, 2) := by decide +kernel
theorem dX12_chosen_12 : decode cX12_chosen 12 = .ok (.iload_n 3, 1) := by decide +kernel
theorem dX12_chosen_13 : decode cX12_chosen 13 = .ok (.isub, 1) := by decide +kernel
theorem dX12_chosen_14 : decode cX12_chosen 14 = .ok (.i2l, 1) := by decide +kernel
theorem dX12_chosen_15 : decode cX12_chosen 15 = .ok (.lmul, 1) := by decide +kernel
theorem dX12_chosen_16 : decode cX12_chosen 16 = .ok (.iload_n 3, 1) := by decide +kernel
theorem dX12_chosen_17 : decode cX12_chosen 17 = .ok (.i2l, 1) := by decide +kernel
theorem dX12_chosen_18 : decode cX12_chosen 18 = .ok (.ldiv, 1) := by decide +kernel
theorem dX12_chosen_19 : decode cX12_chosen 19 = .ok (.lstore_n 1, 1) := by decide +kernel
theorem dX12_chosen_20 : decode cX12_chosen 20 = .ok (.iinc 3 1, 3) := by decide +kernel
theorem dX12_chosen_23 : decode cX12_chosen 23 = .ok (.goto (-19), 3) := by decide +kernel
theorem dX12_chosen_26 : decode cX12_chosen 26 = .ok (.lload_n 1, 1) := by decide +kernel
theorem dX12_chosen_27 : decode cX12_chosen 27 = .ok (.lreturn, 1) := by decide +kernel
theorem dX12_words_0 : decode cX12_words 0 = .ok (.aload_n 0, 1) := by decide +kernel
theorem dX12_words_1 : decode cX12_words 1 = .ok (.iconst 0, 1) := by decide +kernel
theorem dX12_words_2 : decode cX12_words 2 = .ok (.putfield 1, 3) := by decide +kernel
theorem dX12_words_5 : decode cX12_words 5 = .ok (.iload_n 1, 1) := by decide +kernel
theorem dX12_words_6 : decode cX12_words 6 = .ok (.i2l, 1) := by decide +kernel
theorem dX12_words_7 : decode cX12_words 7 = .ok (.lconst 0, 1) := by decide +kernel
theorem dX12_words_8 : decode cX12_words 8 = .ok (.ldc2_w 224, 3) := by decide +kernel
theorem dX12_words_11 : decode cX12_words 11 = .ok (.invokestatic 77, 3) := by decide +kernel
theorem dX12_words_14 : decode cX12_words 14 = .ok (.ifCond .ne 7, 3) := by decide +kernel
theorem dX12_words_17 : decode cX12_words 17 = .ok (.ldc2_w 226, 3) := by decide +kernel
theorem dX12_words_20 : decode cX12_words 20 = .ok (.lreturn, 1) := by decide +kernel
theorem dX12_words_21 : decode cX12_words 21 = .ok (.aload_n 0, 1) := by decide +kernel
theorem dX12_words_22 : decode cX12_words 22 = .ok (.invokevirtual 228, 3) := by decide +kernel
theorem dX12_words_25 : decode cX12_words 25 = .ok (.aload_n 0, 1) := by decide +kernel
theorem dX12_words_26 : decode cX12_words 26 = .ok (.getfield 51, 3) := by decide +kernel
theorem dX12_words_29 : decode cX12_words 29 = .ok (.sipush 256, 3) := by decide +kernel
theorem dX12_words_32 : decode cX12_words 32 = .ok (.iload_n 1, 1) := by decide +kernel
theorem dX12_words_33 : decode cX12_words 33 = .ok (.imul, 1) := by decide +kernel
theorem dX12_words_34 : decode cX12_words 34 = .ok (.laload, 1) := by decide +kernel
theorem dX12_words_35 : decode cX12_words 35 = .ok (.lreturn, 1) := by decide +kernel
theorem dX12_bitsOf_0 : decode cX12_bitsOf 0 = .ok (.dload_n 0, 1) := by decide +kernel
theorem dX12_bitsOf_1 : decode cX12_bitsOf 1 = .ok (.dconst 0, 1) := by decide +kernel
theorem dX12_bitsOf_2 : decode cX12_bitsOf 2 = .ok (.dcmp .l, 1) := by decide +kernel
theorem dX12_bitsOf_3 : decode cX12_bitsOf 3 = .ok (.ifCond .ne 5, 3) := by decide +kernel
theorem dX12_bitsOf_6 : decode cX12_bitsOf 6 = .ok (.lconst 0, 1) := by decide +kernel
theorem dX12_bitsOf_7 : decode cX12_bitsOf 7 = .ok (.lreturn, 1) := by decide +kernel
theorem dX12_bitsOf_8 : decode cX12_bitsOf 8 = .ok (.dload_n 0, 1) := by decide +kernel
theorem dX12_bitsOf_9 : decode cX12_bitsOf 9 = .ok (.dstore 4, 2) := by decide +kernel
theorem dX12_bitsOf_11 : decode cX12_bitsOf 11 = .ok (.iconst 0, 1) := by decide +kernel
theorem dX12_bitsOf_12 : decode cX12_bitsOf 12 = .ok (.istore 6, 2) := by decide +kernel
theorem dX12_bitsOf_14 : decode cX12_bitsOf 14 = .ok (.dload 4, 2) := by decide +kernel
theorem dX12_bitsOf_16 : decode cX12_bitsOf 16 = .ok (.dconst 1, 1) := by decide +kernel
theorem dX12_bitsOf_17 : decode cX12_bitsOf 17 = .ok (.dcmp .g, 1) := by decide +kernel
theorem dX12_bitsOf_18 : decode cX12_bitsOf 18 = .ok (.ifCond .ge 17, 3) := by decide +kernel
theorem dX12_bitsOf_21 : decode cX12_bitsOf 21 = .ok (.dload 4, 2) := by decide +kernel
theorem dX12_bitsOf_23 : decode cX12_bitsOf 23 = .ok (.ldc2_w 231, 3) := by decide +kernel
theorem dX12_bitsOf_26 : decode cX12_bitsOf 26 = .ok (.dmul, 1) := by decide +kernel
theorem dX12_bitsOf_27 : decode cX12_bitsOf 27 = .ok (.dstore 4, 2) := by decide +kernel
theorem dX12_bitsOf_29 : decode cX12_bitsOf 29 = .ok (.iinc 6 (-1), 3) := by decide +kernel
theorem dX12_bitsOf_32 : decode cX12_bitsOf 32 = .ok (.goto (-18), 3) := by decide +kernel
theorem dX12_bitsOf_35 : decode cX12_bitsOf 35 = .ok (.dload 4, 2) := by decide +kernel
theorem dX12_bitsOf_37 : decode cX12_bitsOf 37 = .ok (.ldc2_w 231, 3) := by decide +kernel
theorem dX12_bitsOf_40 : decode cX12_bitsOf 40 = .ok (.dcmp .l, 1) := by decide +kernel
theorem dX12_bitsOf_41 : decode cX12_bitsOf 41 = .ok (.ifCond .lt 17, 3) := by decide +kernel
theorem dX12_bitsOf_44 : decode cX12_bitsOf 44 = .ok (.dload 4, 2) := by decide +kernel
theorem dX12_bitsOf_46 : decode cX12_bitsOf 46 = .ok (.ldc2_w 231, 3) := by decide +kernel
theorem dX12_bitsOf_49 : decode cX12_bitsOf 49 = .ok (.ddiv, 1) := by decide +kernel
theorem dX12_bitsOf_50 : decode cX12_bitsOf 50 = .ok (.dstore 4, 2) := by decide +kernel
theorem dX12_bitsOf_52 : decode cX12_bitsOf 52 = .ok (.iinc 6 1, 3) := by decide +kernel
theorem dX12_bitsOf_55 : decode cX12_bitsOf 55 = .ok (.goto (-20), 3) := by decide +kernel
theorem dX12_bitsOf_58 : decode cX12_bitsOf 58 = .ok (.iconst 0, 1) := by decide +kernel
theorem dX12_bitsOf_59 : decode cX12_bitsOf 59 = .ok (.istore 7, 2) := by decide +kernel
theorem dX12_bitsOf_61 : decode cX12_bitsOf 61 = .ok (.iload 7, 2) := by decide +kernel
theorem dX12_bitsOf_63 : decode cX12_bitsOf 63 = .ok (.iload_n 2, 1) := by decide +kernel
theorem dX12_bitsOf_64 : decode cX12_bitsOf 64 = .ok (.if_icmp .ge 17, 3) := by decide +kernel
theorem dX12_bitsOf_67 : decode cX12_bitsOf 67 = .ok (.dload 4, 2) := by decide +kernel
theorem dX12_bitsOf_69 : decode cX12_bitsOf 69 = .ok (.ldc2_w 231, 3) := by decide +kernel
theorem dX12_bitsOf_72 : decode cX12_bitsOf 72 = .ok (.dmul, 1) := by decide +kernel
theorem dX12_bitsOf_73 : decode cX12_bitsOf 73 = .ok (.dstore 4, 2) := by decide +kernel
theorem dX12_bitsOf_75 : decode cX12_bitsOf 75 = .ok (.iinc 7 1, 3) := by decide +kernel
theorem dX12_bitsOf_78 : decode cX12_bitsOf 78 = .ok (.goto (-17), 3) := by decide +kernel
theorem dX12_bitsOf_81 : decode cX12_bitsOf 81 = .ok (.dload 4, 2) := by decide +kernel
theorem dX12_bitsOf_83 : decode cX12_bitsOf 83 = .ok (.d2l, 1) := by decide +kernel
theorem dX12_bitsOf_84 : decode cX12_bitsOf 84 = .ok (.lstore 7, 2) := by decide +kernel
theorem dX12_bitsOf_86 : decode cX12_bitsOf 86 = .ok (.iload_n 3, 1) := by decide +kernel
theorem dX12_bitsOf_87 : decode cX12_bitsOf 87 = .ok (.iload 6, 2) := by decide +kernel
theorem dX12_bitsOf_89 : decode cX12_bitsOf 89 = .ok (.iadd, 1) := by decide +kernel
theorem dX12_bitsOf_90 : decode cX12_bitsOf 90 = .ok (.i2l, 1) := by decide +kernel
theorem dX12_bitsOf_91 : decode cX12_bitsOf 91 = .ok (.iload_n 2, 1) := by decide +kernel
theorem dX12_bitsOf_92 : decode cX12_bitsOf 92 = .ok (.lshl, 1) := by decide +kernel
theorem dX12_bitsOf_93 : decode cX12_bitsOf 93 = .ok (.lload 7, 2) := by decide +kernel
theorem dX12_bitsOf_95 : decode cX12_bitsOf 95 = .ok (.lconst 1, 1) := by decide +kernel
theorem dX12_bitsOf_96 : decode cX12_bitsOf 96 = .ok (.iload_n 2, 1) := by decide +kernel
theorem dX12_bitsOf_97 : decode cX12_bitsOf 97 = .ok (.lshl, 1) := by decide +kernel
theorem dX12_bitsOf_98 : decode cX12_bitsOf 98 = .ok (.lsub, 1) := by decide +kernel
theorem dX12_bitsOf_99 : decode cX12_bitsOf 99 = .ok (.lor, 1) := by decide +kernel
theorem dX12_bitsOf_100 : decode cX12_bitsOf 100 = .ok (.lreturn, 1) := by decide +kernel
theorem dX12_numberBy_0 : decode cX12_numberBy 0 = .ok (.lload_n 0, 1) := by decide +kernel
theorem dX12_numberBy_1 : decode cX12_numberBy 1 = .ok (.l2d, 1) := by decide +kernel
theorem dX12_numberBy_2 : decode cX12_numberBy 2 = .ok (.lload_n 2, 1) := by decide +kernel
theorem dX12_numberBy_3 : decode cX12_numberBy 3 = .ok (.l2d, 1) := by decide +kernel
theorem dX12_numberBy_4 : decode cX12_numberBy 4 = .ok (.ddiv, 1) := by decide +kernel
theorem dX12_numberBy_5 : decode cX12_numberBy 5 = .ok (.dstore 5, 2) := by decide +kernel
theorem dX12_numberBy_7 : decode cX12_numberBy 7 = .ok (.dload 5, 2) := by decide +kernel
theorem dX12_numberBy_9 : decode cX12_numberBy 9 = .ok (.bipush 52, 2) := by decide +kernel
theorem dX12_numberBy_11 : decode cX12_numberBy 11 = .ok (.sipush 1023, 3) := by decide +kernel
theorem dX12_numberBy_14 : decode cX12_numberBy 14 = .ok (.invokestatic 233, 3) := by decide +kernel
theorem dX12_numberBy_17 : decode cX12_numberBy 17 = .ok (.lstore 7, 2) := by decide +kernel
theorem dX12_numberBy_19 : decode cX12_numberBy 19 = .ok (.iload 4, 2) := by decide +kernel
theorem dX12_numberBy_21 : decode cX12_numberBy 21 = .ok (.tableswitch 48 0 3 #[31, 33, 35, 43], 31) := by decide +kernel
theorem dX12_numberBy_52 : decode cX12_numberBy 52 = .ok (.lload_n 0, 1) := by decide +kernel
theorem dX12_numberBy_53 : decode cX12_numberBy 53 = .ok (.lreturn, 1) := by decide +kernel
theorem dX12_numberBy_54 : decode cX12_numberBy 54 = .ok (.lload_n 2, 1) := by decide +kernel
theorem dX12_numberBy_55 : decode cX12_numberBy 55 = .ok (.lreturn, 1) := by decide +kernel
theorem dX12_numberBy_56 : decode cX12_numberBy 56 = .ok (.lload 7, 2) := by decide +kernel
theorem dX12_numberBy_58 : decode cX12_numberBy 58 = .ok (.bipush 32, 2) := by decide +kernel
theorem dX12_numberBy_60 : decode cX12_numberBy 60 = .ok (.lushr, 1) := by decide +kernel
theorem dX12_numberBy_61 : decode cX12_numberBy 61 = .ok (.l2i, 1) := by decide +kernel
theorem dX12_numberBy_62 : decode cX12_numberBy 62 = .ok (.i2l, 1) := by decide +kernel
theorem dX12_numberBy_63 : decode cX12_numberBy 63 = .ok (.lreturn, 1) := by decide +kernel
theorem dX12_numberBy_64 : decode cX12_numberBy 64 = .ok (.lload 7, 2) := by decide +kernel
theorem dX12_numberBy_66 : decode cX12_numberBy 66 = .ok (.l2i, 1) := by decide +kernel
theorem dX12_numberBy_67 : decode cX12_numberBy 67 = .ok (.i2l, 1) := by decide +kernel
theorem dX12_numberBy_68 : decode cX12_numberBy 68 = .ok (.lreturn, 1) := by decide +kernel
theorem dX12_numberBy_69 : decode cX12_numberBy 69 = .ok (.dload 5, 2) := by decide +kernel
theorem dX12_numberBy_71 : decode cX12_numberBy 71 = .ok (.d2f, 1) := by decide +kernel
theorem dX12_numberBy_72 : decode cX12_numberBy 72 = .ok (.f2d, 1) := by decide +kernel
theorem dX12_numberBy_73 : decode cX12_numberBy 73 = .ok (.bipush 23, 2) := by decide +kernel
theorem dX12_numberBy_75 : decode cX12_numberBy 75 = .ok (.bipush 127, 2) := by decide +kernel
theorem dX12_numberBy_77 : decode cX12_numberBy 77 = .ok (.invokestatic 233, 3) := by decide +kernel
theorem dX12_numberBy_80 : decode cX12_numberBy 80 = .ok (.lreturn, 1) := by decide +kernel
theorem dX12_cases_0 : decode cX12_cases 0 = .ok (.aload_n 0, 1) := by decide +kernel
theorem dX12_cases_1 : decode cX12_cases 1 = .ok (.iconst 0, 1) := by decide +kernel
theorem dX12_cases_2 : decode cX12_cases 2 = .ok (.putfield 1, 3) := by decide +kernel
theorem dX12_cases_5 : decode cX12_cases 5 = .ok (.iload_n 2, 1) := by decide +kernel
theorem dX12_cases_6 : decode cX12_cases 6 = .ok (.i2l, 1) := by decide +kernel
theorem dX12_cases_7 : decode cX12_cases 7 = .ok (.lconst 0, 1) := by decide +kernel
theorem dX12_cases_8 : decode cX12_cases 8 = .ok (.ldc2_w 99, 3) := by decide +kernel
theorem dX12_cases_11 : decode cX12_cases 11 = .ok (.invokestatic 77, 3) := by decide +kernel
theorem dX12_cases_14 : decode cX12_cases 14 = .ok (.ifCond .ne 7, 3) := by decide +kernel
theorem dX12_cases_17 : decode cX12_cases 17 = .ok (.ldc2_w 237, 3) := by decide +kernel
theorem dX12_cases_20 : decode cX12_cases 20 = .ok (.lreturn, 1) := by decide +kernel
theorem dX12_cases_21 : decode cX12_cases 21 = .ok (.iload_n 1, 1) := by decide +kernel
theorem dX12_cases_22 : decode cX12_cases 22 = .ok (.i2l, 1) := by decide +kernel
theorem dX12_cases_23 : decode cX12_cases 23 = .ok (.lconst 0, 1) := by decide +kernel
theorem dX12_cases_24 : decode cX12_cases 24 = .ok (.ldc2_w 224, 3) := by decide +kernel
theorem dX12_cases_27 : decode cX12_cases 27 = .ok (.invokestatic 77, 3) := by decide +kernel
theorem dX12_cases_30 : decode cX12_cases 30 = .ok (.ifCond .ne 7, 3) := by decide +kernel
theorem dX12_cases_33 : decode cX12_cases 33 = .ok (.ldc2_w 226, 3) := by decide +kernel
theorem dX12_cases_36 : decode cX12_cases 36 = .ok (.lreturn, 1) := by decide +kernel
theorem dX12_cases_37 : decode cX12_cases 37 = .ok (.aload_n 0, 1) := by decide +kernel
theorem dX12_cases_38 : decode cX12_cases 38 = .ok (.invokevirtual 228, 3) := by decide +kernel
theorem dX12_cases_41 : decode cX12_cases 41 = .ok (.lconst 0, 1) := by decide +kernel
theorem dX12_cases_42 : decode cX12_cases 42 = .ok (.lstore_n 3, 1) := by decide +kernel
theorem dX12_cases_43 : decode cX12_cases 43 = .ok (.iconst 0, 1) := by decide +kernel
theorem dX12_cases_44 : decode cX12_cases 44 = .ok (.istore 5, 2) := by decide +kernel
theorem dX12_cases_46 : decode cX12_cases 46 = .ok (.iload 5, 2) := by decide +kernel
theorem dX12_cases_48 : decode cX12_cases 48 = .ok (.bipush 40, 2) := by decide +kernel
theorem dX12_cases_50 : decode cX12_cases 50 = .ok (.if_icmp .ge 28, 3) := by decide +kernel
theorem dX12_cases_53 : decode cX12_cases 53 = .ok (.lload_n 3, 1) := by decide +kernel
theorem dX12_cases_54 : decode cX12_cases 54 = .ok (.aload_n 0, 1) := by decide +kernel
theorem dX12_cases_55 : decode cX12_cases 55 = .ok (.getfield 51, 3) := by decide +kernel
theorem dX12_cases_58 : decode cX12_cases 58 = .ok (.sipush 256, 3) := by decide +kernel
theorem dX12_cases_61 : decode cX12_cases 61 = .ok (.iload_n 1, 1) := by decide +kernel
theorem dX12_cases_62 : decode cX12_cases 62 = .ok (.imul, 1) := by decide +kernel
theorem dX12_cases_63 : decode cX12_cases 63 = .ok (.iload 5, 2) := by decide +kernel
theorem dX12_cases_65 : decode cX12_cases 65 = .ok (.invokestatic 85, 3) := by decide +kernel
theorem dX12_cases_68 : decode cX12_cases 68 = .ok (.iadd, 1) := by decide +kernel
theorem dX12_cases_69 : decode cX12_cases 69 = .ok (.laload, 1) := by decide +kernel
theorem dX12_cases_70 : decode cX12_cases 70 = .ok (.ladd, 1) := by decide +kernel
theorem dX12_cases_71 : decode cX12_cases 71 = .ok (.lstore_n 3, 1) := by decide +kernel
theorem dX12_cases_72 : decode cX12_cases 72 = .ok (.iinc 5 1, 3) := by decide +kernel
theorem dX12_cases_75 : decode cX12_cases 75 = .ok (.goto (-29), 3) := by decide +kernel
theorem dX12_cases_78 : decode cX12_cases 78 = .ok (.aload_n 0, 1) := by decide +kernel
theorem dX12_cases_79 : decode cX12_cases 79 = .ok (.getfield 51, 3) := by decide +kernel
theorem dX12_cases_82 : decode cX12_cases 82 = .ok (.sipush 256, 3) := by decide +kernel
theorem dX12_cases_85 : decode cX12_cases 85 = .ok (.iload_n 1, 1) := by decide +kernel
theorem dX12_cases_86 : decode cX12_cases 86 = .ok (.imul, 1) := by decide +kernel
theorem dX12_cases_87 : decode cX12_cases 87 = .ok (.laload, 1) := by decide +kernel
theorem dX12_cases_88 : decode cX12_cases 88 = .ok (.lstore 5, 2) := by decide +kernel
theorem dX12_cases_90 : decode cX12_cases 90 = .ok (.iload_n 2, 1) := by decide +kernel
theorem dX12_cases_91 : decode cX12_cases 91 = .ok (.ifCond .ne 8, 3) := by decide +kernel
theorem dX12_cases_94 : decode cX12_cases 94 = .ok (.lload 5, 2) := by decide +kernel
theorem dX12_cases_96 : decode cX12_cases 96 = .ok (.goto 21, 3) := by decide +kernel
theorem dX12_cases_99 : decode cX12_cases 99 = .ok (.iload_n 2, 1) := by decide +kernel
theorem dX12_cases_100 : decode cX12_cases 100 = .ok (.iconst 1, 1) := by decide +kernel
theorem dX12_cases_101 : decode cX12_cases 101 = .ok (.if_icmp .ne 7, 3) := by decide +kernel
theorem dX12_cases_104 : decode cX12_cases 104 = .ok (.lload_n 3, 1) := by decide +kernel
theorem dX12_cases_105 : decode cX12_cases 105 = .ok (.goto 12, 3) := by decide +kernel
theorem dX12_cases_108 : decode cX12_cases 108 = .ok (.iload_n 1, 1) := by decide +kernel
theorem dX12_cases_109 : decode cX12_cases 109 = .ok (.invokestatic 239, 3) := by decide +kernel
theorem dX12_cases_112 : decode cX12_cases 112 = .ok (.lload 5, 2) := by decide +kernel
theorem dX12_cases_114 : decode cX12_cases 114 = .ok (.lsub, 1) := by decide +kernel
theorem dX12_cases_115 : decode cX12_cases 115 = .ok (.lload_n 3, 1) := by decide +kernel
theorem dX12_cases_116 : decode cX12_cases 116 = .ok (.lsub, 1) := by decide +kernel
theorem dX12_cases_117 : decode cX12_cases 117 = .ok (.lreturn, 1) := by decide +kernel
theorem dX12_unseen_0 : decode cX12_unseen 0 = .ok (.aload_n 0, 1) := by decide +kernel
theorem dX12_unseen_1 : decode cX12_unseen 1 = .ok (.iconst 0, 1) := by decide +kernel
theorem dX12_unseen_2 : decode cX12_unseen 2 = .ok (.putfield 1, 3) := by decide +kernel
theorem dX12_unseen_5 : decode cX12_unseen 5 = .ok (.iload_n 2, 1) := by decide +kernel
theorem dX12_unseen_6 : decode cX12_unseen 6 = .ok (.i2l, 1) := by decide +kernel
theorem dX12_unseen_7 : decode cX12_unseen 7 = .ok (.lconst 0, 1) := by decide +kernel
theorem dX12_unseen_8 : decode cX12_unseen 8 = .ok (.ldc2_w 243, 3) := by decide +kernel
theorem dX12_unseen_11 : decode cX12_unseen 11 = .ok (.invokestatic 77, 3) := by decide +kernel
theorem dX12_unseen_14 : decode cX12_unseen 14 = .ok (.ifCond .ne 7, 3) := by decide +kernel
theorem dX12_unseen_17 : decode cX12_unseen 17 = .ok (.ldc2_w 237, 3) := by decide +kernel
theorem dX12_unseen_20 : decode cX12_unseen 20 = .ok (.lreturn, 1) := by decide +kernel
theorem dX12_unseen_21 : decode cX12_unseen 21 = .ok (.iload_n 1, 1) := by decide +kernel
theorem dX12_unseen_22 : decode cX12_unseen 22 = .ok (.i2l, 1) := by decide +kernel
theorem dX12_unseen_23 : decode cX12_unseen 23 = .ok (.lconst 0, 1) := by decide +kernel
theorem dX12_unseen_24 : decode cX12_unseen 24 = .ok (.ldc2_w 224, 3) := by decide +kernel
theorem dX12_unseen_27 : decode cX12_unseen 27 = .ok (.invokestatic 77, 3) := by decide +kernel
theorem dX12_unseen_30 : decode cX12_unseen 30 = .ok (.ifCond .ne 7, 3) := by decide +kernel
theorem dX12_unseen_33 : decode cX12_unseen 33 = .ok (.ldc2_w 226, 3) := by decide +kernel
theorem dX12_unseen_36 : decode cX12_unseen 36 = .ok (.lreturn, 1) := by decide +kernel
theorem dX12_unseen_37 : decode cX12_unseen 37 = .ok (.aload_n 0, 1) := by decide +kernel
theorem dX12_unseen_38 : decode cX12_unseen 38 = .ok (.invokevirtual 228, 3) := by decide +kernel
theorem dX12_unseen_41 : decode cX12_unseen 41 = .ok (.aload_n 0, 1) := by decide +kernel
theorem dX12_unseen_42 : decode cX12_unseen 42 = .ok (.getfield 51, 3) := by decide +kernel
theorem dX12_unseen_45 : decode cX12_unseen 45 = .ok (.sipush 256, 3) := by decide +kernel
theorem dX12_unseen_48 : decode cX12_unseen 48 = .ok (.iload_n 1, 1) := by decide +kernel
theorem dX12_unseen_49 : decode cX12_unseen 49 = .ok (.imul, 1) := by decide +kernel
theorem dX12_unseen_50 : decode cX12_unseen 50 = .ok (.laload, 1) := by decide +kernel
theorem dX12_unseen_51 : decode cX12_unseen 51 = .ok (.iload_n 1, 1) := by decide +kernel
theorem dX12_unseen_52 : decode cX12_unseen 52 = .ok (.invokestatic 239, 3) := by decide +kernel
theorem dX12_unseen_55 : decode cX12_unseen 55 = .ok (.iload_n 2, 1) := by decide +kernel
theorem dX12_unseen_56 : decode cX12_unseen 56 = .ok (.invokestatic 245, 3) := by decide +kernel
theorem dX12_unseen_59 : decode cX12_unseen 59 = .ok (.lreturn, 1) := by decide +kernel
theorem dX12_all_0 : decode cX12_all 0 = .ok (.lconst 1, 1) := by decide +kernel
theorem dX12_all_1 : decode cX12_all 1 = .ok (.bipush 8, 2) := by decide +kernel
theorem dX12_all_3 : decode cX12_all 3 = .ok (.iload_n 0, 1) := by decide +kernel
theorem dX12_all_4 : decode cX12_all 4 = .ok (.imul, 1) := by decide +kernel
theorem dX12_all_5 : decode cX12_all 5 = .ok (.lshl, 1) := by decide +kernel
theorem dX12_all_6 : decode cX12_all 6 = .ok (.lreturn, 1) := by decide +kernel
theorem dX12_lostOf_0 : decode cX12_lostOf 0 = .ok (.lconst 0, 1) := by decide +kernel
theorem dX12_lostOf_1 : decode cX12_lostOf 1 = .ok (.lstore_n 3, 1) := by decide +kernel
theorem dX12_lostOf_2 : decode cX12_lostOf 2 = .ok (.iconst 0, 1) := by decide +kernel
theorem dX12_lostOf_3 : decode cX12_lostOf 3 = .ok (.istore 5, 2) := by decide +kernel
theorem dX12_lostOf_5 : decode cX12_lostOf 5 = .ok (.iload 5, 2) := by decide +kernel
theorem dX12_lostOf_7 : decode cX12_lostOf 7 = .ok (.bipush 16, 2) := by decide +kernel
theorem dX12_lostOf_9 : decode cX12_lostOf 9 = .ok (.if_icmp .ge 26, 3) := by decide +kernel
theorem dX12_lostOf_12 : decode cX12_lostOf 12 = .ok (.aload_n 0, 1) := by decide +kernel
theorem dX12_lostOf_13 : decode cX12_lostOf 13 = .ok (.getfield 58, 3) := by decide +kernel
theorem dX12_lostOf_16 : decode cX12_lostOf 16 = .ok (.iload 5, 2) := by decide +kernel
theorem dX12_lostOf_18 : decode cX12_lostOf 18 = .ok (.iload 5, 2) := by decide +kernel
theorem dX12_lostOf_20 : decode cX12_lostOf 20 = .ok (.ifCond .ne 7, 3) := by decide +kernel
theorem dX12_lostOf_23 : decode cX12_lostOf 23 = .ok (.lconst 1, 1) := by decide +kernel
theorem dX12_lostOf_24 : decode cX12_lostOf 24 = .ok (.goto 4, 3) := by decide +kernel
theorem dX12_lostOf_27 : decode cX12_lostOf 27 = .ok (.lconst 0, 1) := by decide +kernel
theorem dX12_lostOf_28 : decode cX12_lostOf 28 = .ok (.lastore, 1) := by decide +kernel
theorem dX12_lostOf_29 : decode cX12_lostOf 29 = .ok (.iinc 5 1, 3) := by decide +kernel
theorem dX12_lostOf_32 : decode cX12_lostOf 32 = .ok (.goto (-27), 3) := by decide +kernel
theorem dX12_lostOf_35 : decode cX12_lostOf 35 = .ok (.iconst 0, 1) := by decide +kernel
theorem dX12_lostOf_36 : decode cX12_lostOf 36 = .ok (.istore 5, 2) := by decide +kernel
theorem dX12_lostOf_38 : decode cX12_lostOf 38 = .ok (.iload 5, 2) := by decide +kernel
theorem dX12_lostOf_40 : decode cX12_lostOf 40 = .ok (.iload_n 1, 1) := by decide +kernel
theorem dX12_lostOf_41 : decode cX12_lostOf 41 = .ok (.if_icmp .ge 167, 3) := by decide +kernel
theorem dX12_lostOf_44 : decode cX12_lostOf 44 = .ok (.lload_n 3, 1) := by decide +kernel
theorem dX12_lostOf_45 : decode cX12_lostOf 45 = .ok (.ldc2_w 249, 3) := by decide +kernel
theorem dX12_lostOf_48 : decode cX12_lostOf 48 = .ok (.lmul, 1) := by decide +kernel
theorem dX12_lostOf_49 : decode cX12_lostOf 49 = .ok (.lstore_n 3, 1) := by decide +kernel
theorem dX12_lostOf_50 : decode cX12_lostOf 50 = .ok (.iconst 0, 1) := by decide +kernel
theorem dX12_lostOf_51 : decode cX12_lostOf 51 = .ok (.istore 6, 2) := by decide +kernel
theorem dX12_lostOf_53 : decode cX12_lostOf 53 = .ok (.iload 6, 2) := by decide +kernel
theorem dX12_lostOf_55 : decode cX12_lostOf 55 = .ok (.bipush 16, 2) := by decide +kernel
theorem dX12_lostOf_57 : decode cX12_lostOf 57 = .ok (.if_icmp .ge 17, 3) := by decide +kernel
theorem dX12_lostOf_60 : decode cX12_lostOf 60 = .ok (.aload_n 0, 1) := by decide +kernel
theorem dX12_lostOf_61 : decode cX12_lostOf 61 = .ok (.getfield 61, 3) := by decide +kernel
theorem dX12_lostOf_64 : decode cX12_lostOf 64 = .ok (.iload 6, 2) := by decide +kernel
theorem dX12_lostOf_66 : decode cX12_lostOf 66 = .ok (.lconst 0, 1) := by decide +kernel
theorem dX12_lostOf_67 : decode cX12_lostOf 67 = .ok (.lastore, 1) := by decide +kernel
theorem dX12_lostOf_68 : decode cX12_lostOf 68 = .ok (.iinc 6 1, 3) := by decide +kernel
theorem dX12_lostOf_71 : decode cX12_lostOf 71 = .ok (.goto (-18), 3) := by decide +kernel
theorem dX12_lostOf_74 : decode cX12_lostOf 74 = .ok (.iconst 0, 1) := by decide +kernel
theorem dX12_lostOf_75 : decode cX12_lostOf 75 = .ok (.istore 6, 2) := by decide +kernel
theorem dX12_lostOf_77 : decode cX12_lostOf 77 = .ok (.iload 6, 2) := by decide +kernel
theorem dX12_lostOf_79 : decode cX12_lostOf 79 = .ok (.aload_n 0, 1) := by decide +kernel
theorem dX12_lostOf_80 : decode cX12_lostOf 80 = .ok (.getfield 13, 3) := by decide +kernel
theorem dX12_lostOf_83 : decode cX12_lostOf 83 = .ok (.iconst 1, 1) := by decide +kernel
theorem dX12_lostOf_84 : decode cX12_lostOf 84 = .ok (.iaload, 1) := by decide +kernel
theorem dX12_lostOf_85 : decode cX12_lostOf 85 = .ok (.if_icmp .ge 87, 3) := by decide +kernel
theorem dX12_lostOf_88 : decode cX12_lostOf 88 = .ok (.aload_n 0, 1) := by decide +kernel
theorem dX12_lostOf_89 : decode cX12_lostOf 89 = .ok (.getfield 61, 3) := by decide +kernel
theorem dX12_lostOf_92 : decode cX12_lostOf 92 = .ok (.iconst 0, 1) := by decide +kernel
theorem dX12_lostOf_93 : decode cX12_lostOf 93 = .ok (.dup2, 1) := by decide +kernel
theorem dX12_lostOf_94 : decode cX12_lostOf 94 = .ok (.laload, 1) := by decide +kernel
theorem dX12_lostOf_95 : decode cX12_lostOf 95 = .ok (.aload_n 0, 1) := by decide +kernel
theorem dX12_lostOf_96 : decode cX12_lostOf 96 = .ok (.getfield 58, 3) := by decide +kernel
theorem dX12_lostOf_99 : decode cX12_lostOf 99 = .ok (.iload 6, 2) := by decide +kernel
theorem dX12_lostOf_101 : decode cX12_lostOf 101 = .ok (.laload, 1) := by decide +kernel
theorem dX12_lostOf_102 : decode cX12_lostOf 102 = .ok (.iload_n 2, 1) := by decide +kernel
theorem dX12_lostOf_103 : decode cX12_lostOf 103 = .ok (.i2l, 1) := by decide +kernel
theorem dX12_lostOf_104 : decode cX12_lostOf 104 = .ok (.lmul, 1) := by decide +kernel
theorem dX12_lostOf_105 : decode cX12_lostOf 105 = .ok (.ladd, 1) := by decide +kernel
theorem dX12_lostOf_106 : decode cX12_lostOf 106 = .ok (.lastore, 1) := by decide +kernel
theorem dX12_lostOf_107 : decode cX12_lostOf 107 = .ok (.iload 6, 2) := by decide +kernel
theorem dX12_lostOf_109 : decode cX12_lostOf 109 = .ok (.iconst 1, 1) := by decide +kernel
theorem dX12_lostOf_110 : decode cX12_lostOf 110 = .ok (.iadd, 1) := by decide +kernel
theorem dX12_lostOf_111 : decode cX12_lostOf 111 = .ok (.aload_n 0, 1) := by decide +kernel
theorem dX12_lostOf_112 : decode cX12_lostOf 112 = .ok (.getfield 13, 3) := by decide +kernel
theorem dX12_lostOf_115 : decode cX12_lostOf 115 = .ok (.iconst 1, 1) := by decide +kernel
theorem dX12_lostOf_116 : decode cX12_lostOf 116 = .ok (.iaload, 1) := by decide +kernel
theorem dX12_lostOf_117 : decode cX12_lostOf 117 = .ok (.if_icmp .ne 23, 3) := by decide +kernel
theorem dX12_lostOf_120 : decode cX12_lostOf 120 = .ok (.lload_n 3, 1) := by decide +kernel
theorem dX12_lostOf_121 : decode cX12_lostOf 121 = .ok (.aload_n 0, 1) := by decide +kernel
theorem dX12_lostOf_122 : decode cX12_lostOf 122 = .ok (.getfield 58, 3) := by decide +kernel
theorem dX12_lostOf_125 : decode cX12_lostOf 125 = .ok (.iload 6, 2) := by decide +kernel
theorem dX12_lostOf_127 : decode cX12_lostOf 127 = .ok (.laload, 1) := by decide +kernel
theorem dX12_lostOf_128 : decode cX12_lostOf 128 = .ok (.sipush 256, 3) := by decide +kernel
theorem dX12_lostOf_131 : decode cX12_lostOf 131 = .ok (.iload_n 2, 1) := by decide +kernel
theorem dX12_lostOf_132 : decode cX12_lostOf 132 = .ok (.isub, 1) := by decide +kernel
theorem dX12_lostOf_133 : decode cX12_lostOf 133 = .ok (.i2l, 1) := by decide +kernel
theorem dX12_lostOf_134 : decode cX12_lostOf 134 = .ok (.lmul, 1) := by decide +kernel
theorem dX12_lostOf_135 : decode cX12_lostOf 135 = .ok (.ladd, 1) := by decide +kernel
theorem dX12_lostOf_136 : decode cX12_lostOf 136 = .ok (.lstore_n 3, 1) := by decide +kernel
theorem dX12_lostOf_137 : decode cX12_lostOf 137 = .ok (.goto 29, 3) := by decide +kernel
theorem dX12_lostOf_140 : decode cX12_lostOf 140 = .ok (.aload_n 0, 1) := by decide +kernel
theorem dX12_lostOf_141 : decode cX12_lostOf 141 = .ok (.getfield 61, 3) := by decide +kernel
theorem dX12_lostOf_144 : decode cX12_lostOf 144 = .ok (.iload 6, 2) := by decide +kernel
theorem dX12_lostOf_146 : decode cX12_lostOf 146 = .ok (.iconst 1, 1) := by decide +kernel
theorem dX12_lostOf_147 : decode cX12_lostOf 147 = .ok (.iadd, 1) := by decide +kernel
theorem dX12_lostOf_148 : decode cX12_lostOf 148 = .ok (.dup2, 1) := by decide +kernel
theorem dX12_lostOf_149 : decode cX12_lostOf 149 = .ok (.laload, 1) := by decide +kernel
theorem dX12_lostOf_150 : decode cX12_lostOf 150 = .ok (.aload_n 0, 1) := by decide +kernel
theorem dX12_lostOf_151 : decode cX12_lostOf 151 = .ok (.getfield 58, 3) := by decide +kernel
theorem dX12_lostOf_154 : decode cX12_lostOf 154 = .ok (.iload 6, 2) := by decide +kernel
theorem dX12_lostOf_156 : decode cX12_lostOf 156 = .ok (.laload, 1) := by decide +kernel
theorem dX12_lostOf_157 : decode cX12_lostOf 157 = .ok (.sipush 256, 3) := by decide +kernel
theorem dX12_lostOf_160 : decode cX12_lostOf 160 = .ok (.iload_n 2, 1) := by decide +kernel
theorem dX12_lostOf_161 : decode cX12_lostOf 161 = .ok (.isub, 1) := by decide +kernel
theorem dX12_lostOf_162 : decode cX12_lostOf 162 = .ok (.i2l, 1) := by decide +kernel
theorem dX12_lostOf_163 : decode cX12_lostOf 163 = .ok (.lmul, 1) := by decide +kernel
theorem dX12_lostOf_164 : decode cX12_lostOf 164 = .ok (.ladd, 1) := by decide +kernel
theorem dX12_lostOf_165 : decode cX12_lostOf 165 = .ok (.lastore, 1) := by decide +kernel
theorem dX12_lostOf_166 : decode cX12_lostOf 166 = .ok (.iinc 6 1, 3) := by decide +kernel
theorem dX12_lostOf_169 : decode cX12_lostOf 169 = .ok (.goto (-92), 3) := by decide +kernel
theorem dX12_lostOf_172 : decode cX12_lostOf 172 = .ok (.iconst 0, 1) := by decide +kernel
theorem dX12_lostOf_173 : decode cX12_lostOf 173 = .ok (.istore 6, 2) := by decide +kernel
theorem dX12_lostOf_175 : decode cX12_lostOf 175 = .ok (.iload 6, 2) := by decide +kernel
theorem dX12_lostOf_177 : decode cX12_lostOf 177 = .ok (.bipush 16, 2) := by decide +kernel
theorem dX12_lostOf_179 : decode cX12_lostOf 179 = .ok (.if_icmp .ge 23, 3) := by decide +kernel
theorem dX12_lostOf_182 : decode cX12_lostOf 182 = .ok (.aload_n 0, 1) := by decide +kernel
theorem dX12_lostOf_183 : decode cX12_lostOf 183 = .ok (.getfield 58, 3) := by decide +kernel
theorem dX12_lostOf_186 : decode cX12_lostOf 186 = .ok (.iload 6, 2) := by decide +kernel
theorem dX12_lostOf_188 : decode cX12_lostOf 188 = .ok (.aload_n 0, 1) := by decide +kernel
theorem dX12_lostOf_189 : decode cX12_lostOf 189 = .ok (.getfield 61, 3) := by decide +kernel
theorem dX12_lostOf_192 : decode cX12_lostOf 192 = .ok (.iload 6, 2) := by decide +kernel
theorem dX12_lostOf_194 : decode cX12_lostOf 194 = .ok (.laload, 1) := by decide +kernel
theorem dX12_lostOf_195 : decode cX12_lostOf 195 = .ok (.lastore, 1) := by decide +kernel
theorem dX12_lostOf_196 : decode cX12_lostOf 196 = .ok (.iinc 6 1, 3) := by decide +kernel
theorem dX12_lostOf_199 : decode cX12_lostOf 199 = .ok (.goto (-24), 3) := by decide +kernel
theorem dX12_lostOf_202 : decode cX12_lostOf 202 = .ok (.iinc 5 1, 3) := by decide +kernel
theorem dX12_lostOf_205 : decode cX12_lostOf 205 = .ok (.goto (-167), 3) := by decide +kernel
theorem dX12_lostOf_208 : decode cX12_lostOf 208 = .ok (.lload_n 3, 1) := by decide +kernel
theorem dX12_lostOf_209 : decode cX12_lostOf 209 = .ok (.lreturn, 1) := by decide +kernel
theorem dX12_gainedOf_0 : decode cX12_gainedOf 0 = .ok (.lconst 0, 1) := by decide +kernel
theorem dX12_gainedOf_1 : decode cX12_gainedOf 1 = .ok (.lstore_n 3, 1) := by decide +kernel
theorem dX12_gainedOf_2 : decode cX12_gainedOf 2 = .ok (.lconst 0, 1) := by decide +kernel
theorem dX12_gainedOf_3 : decode cX12_gainedOf 3 = .ok (.lstore 5, 2) := by decide +kernel
theorem dX12_gainedOf_5 : decode cX12_gainedOf 5 = .ok (.iconst 0, 1) := by decide +kernel
theorem dX12_gainedOf_6 : decode cX12_gainedOf 6 = .ok (.istore 7, 2) := by decide +kernel
theorem dX12_gainedOf_8 : decode cX12_gainedOf 8 = .ok (.iload 7, 2) := by decide +kernel
theorem dX12_gainedOf_10 : decode cX12_gainedOf 10 = .ok (.bipush 16, 2) := by decide +kernel
theorem dX12_gainedOf_12 : decode cX12_gainedOf 12 = .ok (.if_icmp .ge 26, 3) := by decide +kernel
theorem dX12_gainedOf_15 : decode cX12_gainedOf 15 = .ok (.aload_n 0, 1) := by decide +kernel
theorem dX12_gainedOf_16 : decode cX12_gainedOf 16 = .ok (.getfield 58, 3) := by decide +kernel
theorem dX12_gainedOf_19 : decode cX12_gainedOf 19 = .ok (.iload 7, 2) := by decide +kernel
theorem dX12_gainedOf_21 : decode cX12_gainedOf 21 = .ok (.iload 7, 2) := by decide +kernel
theorem dX12_gainedOf_23 : decode cX12_gainedOf 23 = .ok (.ifCond .ne 7, 3) := by decide +kernel
theorem dX12_gainedOf_26 : decode cX12_gainedOf 26 = .ok (.lconst 1, 1) := by decide +kernel
theorem dX12_gainedOf_27 : decode cX12_gainedOf 27 = .ok (.goto 4, 3) := by decide +kernel
theorem dX12_gainedOf_30 : decode cX12_gainedOf 30 = .ok (.lconst 0, 1) := by decide +kernel
theorem dX12_gainedOf_31 : decode cX12_gainedOf 31 = .ok (.lastore, 1) := by decide +kernel
theorem dX12_gainedOf_32 : decode cX12_gainedOf 32 = .ok (.iinc 7 1, 3) := by decide +kernel
theorem dX12_gainedOf_35 : decode cX12_gainedOf 35 = .ok (.goto (-27), 3) := by decide +kernel
theorem dX12_gainedOf_38 : decode cX12_gainedOf 38 = .ok (.iconst 0, 1) := by decide +kernel
theorem dX12_gainedOf_39 : decode cX12_gainedOf 39 = .ok (.istore 7, 2) := by decide +kernel
theorem dX12_gainedOf_41 : decode cX12_gainedOf 41 = .ok (.iload 7, 2) := by decide +kernel
theorem dX12_gainedOf_43 : decode cX12_gainedOf 43 = .ok (.iload_n 1, 1) := by decide +kernel
theorem dX12_gainedOf_44 : decode cX12_gainedOf 44 = .ok (.if_icmp .ge 185, 3) := by decide +kernel
theorem dX12_gainedOf_47 : decode cX12_gainedOf 47 = .ok (.lload 5, 2) := by decide +kernel
theorem dX12_gainedOf_49 : decode cX12_gainedOf 49 = .ok (.sipush 256, 3) := by decide +kernel
theorem dX12_gainedOf_52 : decode cX12_gainedOf 52 = .ok (.iload_n 2, 1) := by decide +kernel
theorem dX12_gainedOf_53 : decode cX12_gainedOf 53 = .ok (.isub, 1) := by decide +kernel
theorem dX12_gainedOf_54 : decode cX12_gainedOf 54 = .ok (.i2l, 1) := by decide +kernel
theorem dX12_gainedOf_55 : decode cX12_gainedOf 55 = .ok (.lmul, 1) := by decide +kernel
theorem dX12_gainedOf_56 : decode cX12_gainedOf 56 = .ok (.lstore 8, 2) := by decide +kernel
theorem dX12_gainedOf_58 : decode cX12_gainedOf 58 = .ok (.lload_n 3, 1) := by decide +kernel
theorem dX12_gainedOf_59 : decode cX12_gainedOf 59 = .ok (.ldc2_w 249, 3) := by decide +kernel
theorem dX12_gainedOf_62 : decode cX12_gainedOf 62 = .ok (.lmul, 1) := by decide +kernel
theorem dX12_gainedOf_63 : decode cX12_gainedOf 63 = .ok (.lstore_n 3, 1) := by decide +kernel
theorem dX12_gainedOf_64 : decode cX12_gainedOf 64 = .ok (.iconst 0, 1) := by decide +kernel
theorem dX12_gainedOf_65 : decode cX12_gainedOf 65 = .ok (.istore 10, 2) := by decide +kernel
theorem dX12_gainedOf_67 : decode cX12_gainedOf 67 = .ok (.iload 10, 2) := by decide +kernel
theorem dX12_gainedOf_69 : decode cX12_gainedOf 69 = .ok (.bipush 16, 2) := by decide +kernel
theorem dX12_gainedOf_71 : decode cX12_gainedOf 71 = .ok (.if_icmp .ge 17, 3) := by decide +kernel
theorem dX12_gainedOf_74 : decode cX12_gainedOf 74 = .ok (.aload_n 0, 1) := by decide +kernel
theorem dX12_gainedOf_75 : decode cX12_gainedOf 75 = .ok (.getfield 61, 3) := by decide +kernel
theorem dX12_gainedOf_78 : decode cX12_gainedOf 78 = .ok (.iload 10, 2) := by decide +kernel
theorem dX12_gainedOf_80 : decode cX12_gainedOf 80 = .ok (.lconst 0, 1) := by decide +kernel
theorem dX12_gainedOf_81 : decode cX12_gainedOf 81 = .ok (.lastore, 1) := by decide +kernel
theorem dX12_gainedOf_82 : decode cX12_gainedOf 82 = .ok (.iinc 10 1, 3) := by decide +kernel
theorem dX12_gainedOf_85 : decode cX12_gainedOf 85 = .ok (.goto (-18), 3) := by decide +kernel
theorem dX12_gainedOf_88 : decode cX12_gainedOf 88 = .ok (.aload_n 0, 1) := by decide +kernel
theorem dX12_gainedOf_89 : decode cX12_gainedOf 89 = .ok (.getfield 61, 3) := by decide +kernel
theorem dX12_gainedOf_92 : decode cX12_gainedOf 92 = .ok (.iconst 0, 1) := by decide +kernel
theorem dX12_gainedOf_93 : decode cX12_gainedOf 93 = .ok (.lload 5, 2) := by decide +kernel
theorem dX12_gainedOf_95 : decode cX12_gainedOf 95 = .ok (.iload_n 2, 1) := by decide +kernel
theorem dX12_gainedOf_96 : decode cX12_gainedOf 96 = .ok (.i2l, 1) := by decide +kernel
theorem dX12_gainedOf_97 : decode cX12_gainedOf 97 = .ok (.lmul, 1) := by decide +kernel
theorem dX12_gainedOf_98 : decode cX12_gainedOf 98 = .ok (.lastore, 1) := by decide +kernel
theorem dX12_gainedOf_99 : decode cX12_gainedOf 99 = .ok (.iconst 0, 1) := by decide +kernel
theorem dX12_gainedOf_100 : decode cX12_gainedOf 100 = .ok (.istore 10, 2) := by decide +kernel
theorem dX12_gainedOf_102 : decode cX12_gainedOf 102 = .ok (.iload 10, 2) := by decide +kernel
theorem dX12_gainedOf_104 : decode cX12_gainedOf 104 = .ok (.aload_n 0, 1) := by decide +kernel
theorem dX12_gainedOf_105 : decode cX12_gainedOf 105 = .ok (.getfield 13, 3) := by decide +kernel
theorem dX12_gainedOf_108 : decode cX12_gainedOf 108 = .ok (.iconst 2, 1) := by decide +kernel
theorem dX12_gainedOf_109 : decode cX12_gainedOf 109 = .ok (.iaload, 1) := by decide +kernel
theorem dX12_gainedOf_110 : decode cX12_gainedOf 110 = .ok (.if_icmp .ge 79, 3) := by decide +kernel
theorem dX12_gainedOf_113 : decode cX12_gainedOf 113 = .ok (.lload 8, 2) := by decide +kernel
theorem dX12_gainedOf_115 : decode cX12_gainedOf 115 = .ok (.aload_n 0, 1) := by decide +kernel
theorem dX12_gainedOf_116 : decode cX12_gainedOf 116 = .ok (.getfield 58, 3) := by decide +kernel
theorem dX12_gainedOf_119 : decode cX12_gainedOf 119 = .ok (.iload 10, 2) := by decide +kernel
theorem dX12_gainedOf_121 : decode cX12_gainedOf 121 = .ok (.laload, 1) := by decide +kernel
theorem dX12_gainedOf_122 : decode cX12_gainedOf 122 = .ok (.sipush 256, 3) := by decide +kernel
theorem dX12_gainedOf_125 : decode cX12_gainedOf 125 = .ok (.iload_n 2, 1) := by decide +kernel
theorem dX12_gainedOf_126 : decode cX12_gainedOf 126 = .ok (.isub, 1) := by decide +kernel
theorem dX12_gainedOf_127 : decode cX12_gainedOf 127 = .ok (.i2l, 1) := by decide +kernel
theorem dX12_gainedOf_128 : decode cX12_gainedOf 128 = .ok (.lmul, 1) := by decide +kernel
theorem dX12_gainedOf_129 : decode cX12_gainedOf 129 = .ok (.ladd, 1) := by decide +kernel
theorem dX12_gainedOf_130 : decode cX12_gainedOf 130 = .ok (.lstore 8, 2) := by decide +kernel
theorem dX12_gainedOf_132 : decode cX12_gainedOf 132 = .ok (.iload 10, 2) := by decide +kernel
theorem dX12_gainedOf_134 : decode cX12_gainedOf 134 = .ok (.iconst 1, 1) := by decide +kernel
theorem dX12_gainedOf_135 : decode cX12_gainedOf 135 = .ok (.iadd, 1) := by decide +kernel
theorem dX12_gainedOf_136 : decode cX12_gainedOf 136 = .ok (.aload_n 0, 1) := by decide +kernel
theorem dX12_gainedOf_137 : decode cX12_gainedOf 137 = .ok (.getfield 13, 3) := by decide +kernel
theorem dX12_gainedOf_140 : decode cX12_gainedOf 140 = .ok (.iconst 2, 1) := by decide +kernel
theorem dX12_gainedOf_141 : decode cX12_gainedOf 141 = .ok (.iaload, 1) := by decide +kernel
theorem dX12_gainedOf_142 : decode cX12_gainedOf 142 = .ok (.if_icmp .ne 19, 3) := by decide +kernel
theorem dX12_gainedOf_145 : decode cX12_gainedOf 145 = .ok (.lload_n 3, 1) := by decide +kernel
theorem dX12_gainedOf_146 : decode cX12_gainedOf 146 = .ok (.aload_n 0, 1) := by decide +kernel
theorem dX12_gainedOf_147 : decode cX12_gainedOf 147 = .ok (.getfield 58, 3) := by decide +kernel
theorem dX12_gainedOf_150 : decode cX12_gainedOf 150 = .ok (.iload 10, 2) := by decide +kernel
theorem dX12_gainedOf_152 : decode cX12_gainedOf 152 = .ok (.laload, 1) := by decide +kernel
theorem dX12_gainedOf_153 : decode cX12_gainedOf 153 = .ok (.iload_n 2, 1) := by decide +kernel
theorem dX12_gainedOf_154 : decode cX12_gainedOf 154 = .ok (.i2l, 1) := by decide +kernel
theorem dX12_gainedOf_155 : decode cX12_gainedOf 155 = .ok (.lmul, 1) := by decide +kernel
theorem dX12_gainedOf_156 : decode cX12_gainedOf 156 = .ok (.ladd, 1) := by decide +kernel
theorem dX12_gainedOf_157 : decode cX12_gainedOf 157 = .ok (.lstore_n 3, 1) := by decide +kernel
theorem dX12_gainedOf_158 : decode cX12_gainedOf 158 = .ok (.goto 25, 3) := by decide +kernel
theorem dX12_gainedOf_161 : decode cX12_gainedOf 161 = .ok (.aload_n 0, 1) := by decide +kernel
theorem dX12_gainedOf_162 : decode cX12_gainedOf 162 = .ok (.getfield 61, 3) := by decide +kernel
theorem dX12_gainedOf_165 : decode cX12_gainedOf 165 = .ok (.iload 10, 2) := by decide +kernel
theorem dX12_gainedOf_167 : decode cX12_gainedOf 167 = .ok (.iconst 1, 1) := by decide +kernel
theorem dX12_gainedOf_168 : decode cX12_gainedOf 168 = .ok (.iadd, 1) := by decide +kernel
theorem dX12_gainedOf_169 : decode cX12_gainedOf 169 = .ok (.dup2, 1) := by decide +kernel
theorem dX12_gainedOf_170 : decode cX12_gainedOf 170 = .ok (.laload, 1) := by decide +kernel
theorem dX12_gainedOf_171 : decode cX12_gainedOf 171 = .ok (.aload_n 0, 1) := by decide +kernel
theorem dX12_gainedOf_172 : decode cX12_gainedOf 172 = .ok (.getfield 58, 3) := by decide +kernel
theorem dX12_gainedOf_175 : decode cX12_gainedOf 175 = .ok (.iload 10, 2) := by decide +kernel
theorem dX12_gainedOf_177 : decode cX12_gainedOf 177 = .ok (.laload, 1) := by decide +kernel
theorem dX12_gainedOf_178 : decode cX12_gainedOf 178 = .ok (.iload_n 2, 1) := by decide +kernel
theorem dX12_gainedOf_179 : decode cX12_gainedOf 179 = .ok (.i2l, 1) := by decide +kernel
theorem dX12_gainedOf_180 : decode cX12_gainedOf 180 = .ok (.lmul, 1) := by decide +kernel
theorem dX12_gainedOf_181 : decode cX12_gainedOf 181 = .ok (.ladd, 1) := by decide +kernel
theorem dX12_gainedOf_182 : decode cX12_gainedOf 182 = .ok (.lastore, 1) := by decide +kernel
theorem dX12_gainedOf_183 : decode cX12_gainedOf 183 = .ok (.iinc 10 1, 3) := by decide +kernel
theorem dX12_gainedOf_186 : decode cX12_gainedOf 186 = .ok (.goto (-84), 3) := by decide +kernel
theorem dX12_gainedOf_189 : decode cX12_gainedOf 189 = .ok (.lload 8, 2) := by decide +kernel
theorem dX12_gainedOf_191 : decode cX12_gainedOf 191 = .ok (.lstore 5, 2) := by decide +kernel
theorem dX12_gainedOf_193 : decode cX12_gainedOf 193 = .ok (.iconst 0, 1) := by decide +kernel
theorem dX12_gainedOf_194 : decode cX12_gainedOf 194 = .ok (.istore 10, 2) := by decide +kernel
theorem dX12_gainedOf_196 : decode cX12_gainedOf 196 = .ok (.iload 10, 2) := by decide +kernel
theorem dX12_gainedOf_198 : decode cX12_gainedOf 198 = .ok (.bipush 16, 2) := by decide +kernel
theorem dX12_gainedOf_200 : decode cX12_gainedOf 200 = .ok (.if_icmp .ge 23, 3) := by decide +kernel
theorem dX12_gainedOf_203 : decode cX12_gainedOf 203 = .ok (.aload_n 0, 1) := by decide +kernel
theorem dX12_gainedOf_204 : decode cX12_gainedOf 204 = .ok (.getfield 58, 3) := by decide +kernel
theorem dX12_gainedOf_207 : decode cX12_gainedOf 207 = .ok (.iload 10, 2) := by decide +kernel
theorem dX12_gainedOf_209 : decode cX12_gainedOf 209 = .ok (.aload_n 0, 1) := by decide +kernel
theorem dX12_gainedOf_210 : decode cX12_gainedOf 210 = .ok (.getfield 61, 3) := by decide +kernel
theorem dX12_gainedOf_213 : decode cX12_gainedOf 213 = .ok (.iload 10, 2) := by decide +kernel
theorem dX12_gainedOf_215 : decode cX12_gainedOf 215 = .ok (.laload, 1) := by decide +kernel
theorem dX12_gainedOf_216 : decode cX12_gainedOf 216 = .ok (.lastore, 1) := by decide +kernel
theorem dX12_gainedOf_217 : decode cX12_gainedOf 217 = .ok (.iinc 10 1, 3) := by decide +kernel
theorem dX12_gainedOf_220 : decode cX12_gainedOf 220 = .ok (.goto (-24), 3) := by decide +kernel
theorem dX12_gainedOf_223 : decode cX12_gainedOf 223 = .ok (.iinc 7 1, 3) := by decide +kernel
theorem dX12_gainedOf_226 : decode cX12_gainedOf 226 = .ok (.goto (-185), 3) := by decide +kernel
theorem dX12_gainedOf_229 : decode cX12_gainedOf 229 = .ok (.lload_n 3, 1) := by decide +kernel
theorem dX12_gainedOf_230 : decode cX12_gainedOf 230 = .ok (.lreturn, 1) := by decide +kernel
theorem dX12_oddsOf_0 : decode cX12_oddsOf 0 = .ok (.iload_n 1, 1) := by decide +kernel
theorem dX12_oddsOf_1 : decode cX12_oddsOf 1 = .ok (.ifCond .ne 12, 3) := by decide +kernel
theorem dX12_oddsOf_4 : decode cX12_oddsOf 4 = .ok (.aload_n 0, 1) := by decide +kernel
theorem dX12_oddsOf_5 : decode cX12_oddsOf 5 = .ok (.iload_n 2, 1) := by decide +kernel
theorem dX12_oddsOf_6 : decode cX12_oddsOf 6 = .ok (.iload_n 3, 1) := by decide +kernel
theorem dX12_oddsOf_7 : decode cX12_oddsOf 7 = .ok (.invokevirtual 251, 3) := by decide +kernel
theorem dX12_oddsOf_10 : decode cX12_oddsOf 10 = .ok (.goto 9, 3) := by decide +kernel
theorem dX12_oddsOf_13 : decode cX12_oddsOf 13 = .ok (.aload_n 0, 1) := by decide +kernel
theorem dX12_oddsOf_14 : decode cX12_oddsOf 14 = .ok (.iload_n 2, 1) := by decide +kernel
theorem dX12_oddsOf_15 : decode cX12_oddsOf 15 = .ok (.iload_n 3, 1) := by decide +kernel
theorem dX12_oddsOf_16 : decode cX12_oddsOf 16 = .ok (.invokevirtual 255, 3) := by decide +kernel
theorem dX12_oddsOf_19 : decode cX12_oddsOf 19 = .ok (.lreturn, 1) := by decide +kernel
theorem dX12_odds_0 : decode cX12_odds 0 = .ok (.aload_n 0, 1) := by decide +kernel
theorem dX12_odds_1 : decode cX12_odds 1 = .ok (.iconst 0, 1) := by decide +kernel
theorem dX12_odds_2 : decode cX12_odds 2 = .ok (.putfield 1, 3) := by decide +kernel
theorem dX12_odds_5 : decode cX12_odds 5 = .ok (.iload_n 1, 1) := by decide +kernel
theorem dX12_odds_6 : decode cX12_odds 6 = .ok (.i2l, 1) := by decide +kernel
theorem dX12_odds_7 : decode cX12_odds 7 = .ok (.lconst 0, 1) := by decide +kernel
theorem dX12_odds_8 : decode cX12_odds 8 = .ok (.lconst 1, 1) := by decide +kernel
theorem dX12_odds_9 : decode cX12_odds 9 = .ok (.invokestatic 77, 3) := by decide +kernel
theorem dX12_odds_12 : decode cX12_odds 12 = .ok (.ifCond .eq 16, 3) := by decide +kernel
theorem dX12_odds_15 : decode cX12_odds 15 = .ok (.iload 4, 2) := by decide +kernel
theorem dX12_odds_17 : decode cX12_odds 17 = .ok (.i2l, 1) := by decide +kernel
theorem dX12_odds_18 : decode cX12_odds 18 = .ok (.lconst 0, 1) := by decide +kernel
theorem dX12_odds_19 : decode cX12_odds 19 = .ok (.ldc2_w 243, 3) := by decide +kernel
theorem dX12_odds_22 : decode cX12_odds 22 = .ok (.invokestatic 77, 3) := by decide +kernel
theorem dX12_odds_25 : decode cX12_odds 25 = .ok (.ifCond .ne 7, 3) := by decide +kernel
theorem dX12_odds_28 : decode cX12_odds 28 = .ok (.ldc2_w 237, 3) := by decide +kernel
theorem dX12_odds_31 : decode cX12_odds 31 = .ok (.lreturn, 1) := by decide +kernel
theorem dX12_odds_32 : decode cX12_odds 32 = .ok (.iload_n 2, 1) := by decide +kernel
theorem dX12_odds_33 : decode cX12_odds 33 = .ok (.i2l, 1) := by decide +kernel
theorem dX12_odds_34 : decode cX12_odds 34 = .ok (.lconst 0, 1) := by decide +kernel
theorem dX12_odds_35 : decode cX12_odds 35 = .ok (.ldc2_w 258, 3) := by decide +kernel
theorem dX12_odds_38 : decode cX12_odds 38 = .ok (.invokestatic 77, 3) := by decide +kernel
theorem dX12_odds_41 : decode cX12_odds 41 = .ok (.ifCond .eq 15, 3) := by decide +kernel
theorem dX12_odds_44 : decode cX12_odds 44 = .ok (.iload_n 3, 1) := by decide +kernel
theorem dX12_odds_45 : decode cX12_odds 45 = .ok (.i2l, 1) := by decide +kernel
theorem dX12_odds_46 : decode cX12_odds 46 = .ok (.lconst 0, 1) := by decide +kernel
theorem dX12_odds_47 : decode cX12_odds 47 = .ok (.ldc2_w 249, 3) := by decide +kernel
theorem dX12_odds_50 : decode cX12_odds 50 = .ok (.invokestatic 77, 3) := by decide +kernel
theorem dX12_odds_53 : decode cX12_odds 53 = .ok (.ifCond .ne 7, 3) := by decide +kernel
theorem dX12_odds_56 : decode cX12_odds 56 = .ok (.ldc2_w 226, 3) := by decide +kernel
theorem dX12_odds_59 : decode cX12_odds 59 = .ok (.lreturn, 1) := by decide +kernel
theorem dX12_odds_60 : decode cX12_odds 60 = .ok (.aload_n 0, 1) := by decide +kernel
theorem dX12_odds_61 : decode cX12_odds 61 = .ok (.iload_n 1, 1) := by decide +kernel
theorem dX12_odds_62 : decode cX12_odds 62 = .ok (.iload_n 2, 1) := by decide +kernel
theorem dX12_odds_63 : decode cX12_odds 63 = .ok (.iload_n 3, 1) := by decide +kernel
theorem dX12_odds_64 : decode cX12_odds 64 = .ok (.invokevirtual 260, 3) := by decide +kernel
theorem dX12_odds_67 : decode cX12_odds 67 = .ok (.iload_n 2, 1) := by decide +kernel
theorem dX12_odds_68 : decode cX12_odds 68 = .ok (.invokestatic 264, 3) := by decide +kernel
theorem dX12_odds_71 : decode cX12_odds 71 = .ok (.iload 4, 2) := by decide +kernel
theorem dX12_odds_73 : decode cX12_odds 73 = .ok (.invokestatic 245, 3) := by decide +kernel
theorem dX12_odds_76 : decode cX12_odds 76 = .ok (.lreturn, 1) := by decide +kernel
theorem dX12_mean_0 : decode cX12_mean 0 = .ok (.aload_n 0, 1) := by decide +kernel
theorem dX12_mean_1 : decode cX12_mean 1 = .ok (.iconst 0, 1) := by decide +kernel
theorem dX12_mean_2 : decode cX12_mean 2 = .ok (.putfield 1, 3) := by decide +kernel
theorem dX12_mean_5 : decode cX12_mean 5 = .ok (.iload_n 1, 1) := by decide +kernel
theorem dX12_mean_6 : decode cX12_mean 6 = .ok (.i2l, 1) := by decide +kernel
theorem dX12_mean_7 : decode cX12_mean 7 = .ok (.lconst 0, 1) := by decide +kernel
theorem dX12_mean_8 : decode cX12_mean 8 = .ok (.lconst 1, 1) := by decide +kernel
theorem dX12_mean_9 : decode cX12_mean 9 = .ok (.invokestatic 77, 3) := by decide +kernel
theorem dX12_mean_12 : decode cX12_mean 12 = .ok (.ifCond .eq 13, 3) := by decide +kernel
theorem dX12_mean_15 : decode cX12_mean 15 = .ok (.iload_n 3, 1) := by decide +kernel
theorem dX12_mean_16 : decode cX12_mean 16 = .ok (.i2l, 1) := by decide +kernel
theorem dX12_mean_17 : decode cX12_mean 17 = .ok (.lconst 0, 1) := by decide +kernel
theorem dX12_mean_18 : decode cX12_mean 18 = .ok (.lconst 1, 1) := by decide +kernel
theorem dX12_mean_19 : decode cX12_mean 19 = .ok (.invokestatic 77, 3) := by decide +kernel
theorem dX12_mean_22 : decode cX12_mean 22 = .ok (.ifCond .ne 7, 3) := by decide +kernel
theorem dX12_mean_25 : decode cX12_mean 25 = .ok (.ldc2_w 237, 3) := by decide +kernel
theorem dX12_mean_28 : decode cX12_mean 28 = .ok (.lreturn, 1) := by decide +kernel
theorem dX12_mean_29 : decode cX12_mean 29 = .ok (.iload_n 2, 1) := by decide +kernel
theorem dX12_mean_30 : decode cX12_mean 30 = .ok (.i2l, 1) := by decide +kernel
theorem dX12_mean_31 : decode cX12_mean 31 = .ok (.lconst 0, 1) := by decide +kernel
theorem dX12_mean_32 : decode cX12_mean 32 = .ok (.ldc2_w 249, 3) := by decide +kernel
theorem dX12_mean_35 : decode cX12_mean 35 = .ok (.invokestatic 77, 3) := by decide +kernel
theorem dX12_mean_38 : decode cX12_mean 38 = .ok (.ifCond .ne 7, 3) := by decide +kernel
theorem dX12_mean_41 : decode cX12_mean 41 = .ok (.ldc2_w 226, 3) := by decide +kernel
theorem dX12_mean_44 : decode cX12_mean 44 = .ok (.lreturn, 1) := by decide +kernel
theorem dX12_mean_45 : decode cX12_mean 45 = .ok (.iload_n 1, 1) := by decide +kernel
theorem dX12_mean_46 : decode cX12_mean 46 = .ok (.ifCond .ne 11, 3) := by decide +kernel
theorem dX12_mean_49 : decode cX12_mean 49 = .ok (.sipush 256, 3) := by decide +kernel
theorem dX12_mean_52 : decode cX12_mean 52 = .ok (.iload_n 2, 1) := by decide +kernel
theorem dX12_mean_53 : decode cX12_mean 53 = .ok (.isub, 1) := by decide +kernel
theorem dX12_mean_54 : decode cX12_mean 54 = .ok (.goto 4, 3) := by decide +kernel
theorem dX12_mean_57 : decode cX12_mean 57 = .ok (.iload_n 2, 1) := by decide +kernel
theorem dX12_mean_58 : decode cX12_mean 58 = .ok (.istore 4, 2) := by decide +kernel
theorem dX12_mean_60 : decode cX12_mean 60 = .ok (.iload 4, 2) := by decide +kernel
theorem dX12_mean_62 : decode cX12_mean 62 = .ok (.ifCond .ne 7, 3) := by decide +kernel
theorem dX12_mean_65 : decode cX12_mean 65 = .ok (.ldc2_w 267, 3) := by decide +kernel
theorem dX12_mean_68 : decode cX12_mean 68 = .ok (.lreturn, 1) := by decide +kernel
theorem dX12_mean_69 : decode cX12_mean 69 = .ok (.iload 4, 2) := by decide +kernel
theorem dX12_mean_71 : decode cX12_mean 71 = .ok (.i2d, 1) := by decide +kernel
theorem dX12_mean_72 : decode cX12_mean 72 = .ok (.ldc2_w 269, 3) := by decide +kernel
theorem dX12_mean_75 : decode cX12_mean 75 = .ok (.ddiv, 1) := by decide +kernel
theorem dX12_mean_76 : decode cX12_mean 76 = .ok (.dstore 5, 2) := by decide +kernel
theorem dX12_mean_78 : decode cX12_mean 78 = .ok (.dconst 0, 1) := by decide +kernel
theorem dX12_mean_79 : decode cX12_mean 79 = .ok (.dstore 7, 2) := by decide +kernel
theorem dX12_mean_81 : decode cX12_mean 81 = .ok (.iconst 0, 1) := by decide +kernel
theorem dX12_mean_82 : decode cX12_mean 82 = .ok (.istore 9, 2) := by decide +kernel
theorem dX12_mean_84 : decode cX12_mean 84 = .ok (.iload 9, 2) := by decide +kernel
theorem dX12_mean_86 : decode cX12_mean 86 = .ok (.iload_n 1, 1) := by decide +kernel
theorem dX12_mean_87 : decode cX12_mean 87 = .ok (.ifCond .ne 12, 3) := by decide +kernel
theorem dX12_mean_90 : decode cX12_mean 90 = .ok (.aload_n 0, 1) := by decide +kernel
theorem dX12_mean_91 : decode cX12_mean 91 = .ok (.getfield 13, 3) := by decide +kernel
theorem dX12_mean_94 : decode cX12_mean 94 = .ok (.iconst 1, 1) := by decide +kernel
theorem dX12_mean_95 : decode cX12_mean 95 = .ok (.iaload, 1) := by decide +kernel
theorem dX12_mean_96 : decode cX12_mean 96 = .ok (.goto 11, 3) := by decide +kernel
theorem dX12_mean_99 : decode cX12_mean 99 = .ok (.aload_n 0, 1) := by decide +kernel
theorem dX12_mean_100 : decode cX12_mean 100 = .ok (.getfield 13, 3) := by decide +kernel
theorem dX12_mean_103 : decode cX12_mean 103 = .ok (.iconst 2, 1) := by decide +kernel
theorem dX12_mean_104 : decode cX12_mean 104 = .ok (.iaload, 1) := by decide +kernel
theorem dX12_mean_105 : decode cX12_mean 105 = .ok (.iconst 1, 1) := by decide +kernel
theorem dX12_mean_106 : decode cX12_mean 106 = .ok (.iadd, 1) := by decide +kernel
theorem dX12_mean_107 : decode cX12_mean 107 = .ok (.if_icmp .ge 18, 3) := by decide +kernel
theorem dX12_mean_110 : decode cX12_mean 110 = .ok (.dload 7, 2) := by decide +kernel
theorem dX12_mean_112 : decode cX12_mean 112 = .ok (.dconst 1, 1) := by decide +kernel
theorem dX12_mean_113 : decode cX12_mean 113 = .ok (.dadd, 1) := by decide +kernel
theorem dX12_mean_114 : decode cX12_mean 114 = .ok (.dload 5, 2) := by decide +kernel
theorem dX12_mean_116 : decode cX12_mean 116 = .ok (.ddiv, 1) := by decide +kernel
theorem dX12_mean_117 : decode cX12_mean 117 = .ok (.dstore 7, 2) := by decide +kernel
theorem dX12_mean_119 : decode cX12_mean 119 = .ok (.iinc 9 1, 3) := by decide +kernel
theorem dX12_mean_122 : decode cX12_mean 122 = .ok (.goto (-38), 3) := by decide +kernel
theorem dX12_mean_125 : decode cX12_mean 125 = .ok (.dload 7, 2) := by decide +kernel
theorem dX12_mean_127 : decode cX12_mean 127 = .ok (.bipush 52, 2) := by decide +kernel
theorem dX12_mean_129 : decode cX12_mean 129 = .ok (.sipush 1023, 3) := by decide +kernel
theorem dX12_mean_132 : decode cX12_mean 132 = .ok (.invokestatic 233, 3) := by decide +kernel
theorem dX12_mean_135 : decode cX12_mean 135 = .ok (.lstore 9, 2) := by decide +kernel
theorem dX12_mean_137 : decode cX12_mean 137 = .ok (.iload_n 3, 1) := by decide +kernel
theorem dX12_mean_138 : decode cX12_mean 138 = .ok (.ifCond .ne 13, 3) := by decide +kernel
theorem dX12_mean_141 : decode cX12_mean 141 = .ok (.lload 9, 2) := by decide +kernel
theorem dX12_mean_143 : decode cX12_mean 143 = .ok (.bipush 32, 2) := by decide +kernel
theorem dX12_mean_145 : decode cX12_mean 145 = .ok (.lushr, 1) := by decide +kernel
theorem dX12_mean_146 : decode cX12_mean 146 = .ok (.l2i, 1) := by decide +kernel
theorem dX12_mean_147 : decode cX12_mean 147 = .ok (.i2l, 1) := by decide +kernel
theorem dX12_mean_148 : decode cX12_mean 148 = .ok (.goto 7, 3) := by decide +kernel
theorem dX12_mean_151 : decode cX12_mean 151 = .ok (.lload 9, 2) := by decide +kernel
theorem dX12_mean_153 : decode cX12_mean 153 = .ok (.l2i, 1) := by decide +kernel
theorem dX12_mean_154 : decode cX12_mean 154 = .ok (.i2l, 1) := by decide +kernel
theorem dX12_mean_155 : decode cX12_mean 155 = .ok (.lreturn, 1) := by decide +kernel
theorem dX12_half_0 : decode cX12_half 0 = .ok (.aload_n 0, 1) := by decide +kernel
theorem dX12_half_1 : decode cX12_half 1 = .ok (.iconst 0, 1) := by decide +kernel
theorem dX12_half_2 : decode cX12_half 2 = .ok (.putfield 1, 3) := by decide +kernel
theorem dX12_half_5 : decode cX12_half 5 = .ok (.iload_n 1, 1) := by decide +kernel
theorem dX12_half_6 : decode cX12_half 6 = .ok (.i2l, 1) := by decide +kernel
theorem dX12_half_7 : decode cX12_half 7 = .ok (.lconst 0, 1) := by decide +kernel
theorem dX12_half_8 : decode cX12_half 8 = .ok (.lconst 1, 1) := by decide +kernel
theorem dX12_half_9 : decode cX12_half 9 = .ok (.invokestatic 77, 3) := by decide +kernel
theorem dX12_half_12 : decode cX12_half 12 = .ok (.ifCond .ne 6, 3) := by decide +kernel
theorem dX12_half_15 : decode cX12_half 15 = .ok (.bipush (-2), 2) := by decide +kernel
theorem dX12_half_17 : decode cX12_half 17 = .ok (.ireturn, 1) := by decide +kernel
theorem dX12_half_18 : decode cX12_half 18 = .ok (.iload_n 2, 1) := by decide +kernel
theorem dX12_half_19 : decode cX12_half 19 = .ok (.i2l, 1) := by decide +kernel
theorem dX12_half_20 : decode cX12_half 20 = .ok (.lconst 0, 1) := by decide +kernel
theorem dX12_half_21 : decode cX12_half 21 = .ok (.ldc2_w 249, 3) := by decide +kernel
theorem dX12_half_24 : decode cX12_half 24 = .ok (.invokestatic 77, 3) := by decide +kernel
theorem dX12_half_27 : decode cX12_half 27 = .ok (.ifCond .ne 6, 3) := by decide +kernel
theorem dX12_half_30 : decode cX12_half 30 = .ok (.bipush (-3), 2) := by decide +kernel
theorem dX12_half_32 : decode cX12_half 32 = .ok (.ireturn, 1) := by decide +kernel
theorem dX12_half_33 : decode cX12_half 33 = .ok (.iconst 0, 1) := by decide +kernel
theorem dX12_half_34 : decode cX12_half 34 = .ok (.istore_n 3, 1) := by decide +kernel
theorem dX12_half_35 : decode cX12_half 35 = .ok (.iload_n 3, 1) := by decide +kernel
theorem dX12_half_36 : decode cX12_half 36 = .ok (.bipush 8, 2) := by decide +kernel
theorem dX12_half_38 : decode cX12_half 38 = .ok (.if_icmp .ge 30, 3) := by decide +kernel
theorem dX12_half_41 : decode cX12_half 41 = .ok (.ldc2_w 99, 3) := by decide +kernel
theorem dX12_half_44 : decode cX12_half 44 = .ok (.aload_n 0, 1) := by decide +kernel
theorem dX12_half_45 : decode cX12_half 45 = .ok (.iload_n 1, 1) := by decide +kernel
theorem dX12_half_46 : decode cX12_half 46 = .ok (.iload_n 3, 1) := by decide +kernel
theorem dX12_half_47 : decode cX12_half 47 = .ok (.iload_n 2, 1) := by decide +kernel
theorem dX12_half_48 : decode cX12_half 48 = .ok (.invokevirtual 260, 3) := by decide +kernel
theorem dX12_half_51 : decode cX12_half 51 = .ok (.lmul, 1) := by decide +kernel
theorem dX12_half_52 : decode cX12_half 52 = .ok (.iload_n 3, 1) := by decide +kernel
theorem dX12_half_53 : decode cX12_half 53 = .ok (.invokestatic 264, 3) := by decide +kernel
theorem dX12_half_56 : decode cX12_half 56 = .ok (.lcmp, 1) := by decide +kernel
theorem dX12_half_57 : decode cX12_half 57 = .ok (.ifCond .lt 5, 3) := by decide +kernel
theorem dX12_half_60 : decode cX12_half 60 = .ok (.iload_n 3, 1) := by decide +kernel
theorem dX12_half_61 : decode cX12_half 61 = .ok (.ireturn, 1) := by decide +kernel
theorem dX12_half_62 : decode cX12_half 62 = .ok (.iinc 3 1, 3) := by decide +kernel
theorem dX12_half_65 : decode cX12_half 65 = .ok (.goto (-30), 3) := by decide +kernel
theorem dX12_half_68 : decode cX12_half 68 = .ok (.iconst (-1), 1) := by decide +kernel
theorem dX12_half_69 : decode cX12_half 69 = .ok (.ireturn, 1) := by decide +kernel
theorem dX12_told_0 : decode cX12_told 0 = .ok (.aload_n 0, 1) := by decide +kernel
theorem dX12_told_1 : decode cX12_told 1 = .ok (.iconst 0, 1) := by decide +kernel
theorem dX12_told_2 : decode cX12_told 2 = .ok (.putfield 1, 3) := by decide +kernel
theorem dX12_told_5 : decode cX12_told 5 = .ok (.iload_n 1, 1) := by decide +kernel
theorem dX12_told_6 : decode cX12_told 6 = .ok (.i2l, 1) := by decide +kernel
theorem dX12_told_7 : decode cX12_told 7 = .ok (.ldc2_w 271, 3) := by decide +kernel
theorem dX12_told_10 : decode cX12_told 10 = .ok (.ldc2_w 273, 3) := by decide +kernel
theorem dX12_told_13 : decode cX12_told 13 = .ok (.invokestatic 77, 3) := by decide +kernel
theorem dX12_told_16 : decode cX12_told 16 = .ok (.ifCond .eq 13, 3) := by decide +kernel
theorem dX12_told_19 : decode cX12_told 19 = .ok (.aload_n 0, 1) := by decide +kernel
theorem dX12_told_20 : decode cX12_told 20 = .ok (.getfield 13, 3) := by decide +kernel
theorem dX12_told_23 : decode cX12_told 23 = .ok (.iload_n 1, 1) := by decide +kernel
theorem dX12_told_24 : decode cX12_told 24 = .ok (.bipush 10, 2) := by decide +kernel
theorem dX12_told_26 : decode cX12_told 26 = .ok (.isub, 1) := by decide +kernel
theorem dX12_told_27 : decode cX12_told 27 = .ok (.iaload, 1) := by decide +kernel
theorem dX12_told_28 : decode cX12_told 28 = .ok (.ireturn, 1) := by decide +kernel
theorem dX12_told_29 : decode cX12_told 29 = .ok (.iload_n 1, 1) := by decide +kernel
theorem dX12_told_30 : decode cX12_told 30 = .ok (.ifCond .ne 10, 3) := by decide +kernel
theorem dX12_told_33 : decode cX12_told 33 = .ok (.aload_n 0, 1) := by decide +kernel
theorem dX12_told_34 : decode cX12_told 34 = .ok (.getfield 64, 3) := by decide +kernel
theorem dX12_told_37 : decode cX12_told 37 = .ok (.goto 30, 3) := by decide +kernel
theorem dX12_told_40 : decode cX12_told 40 = .ok (.iload_n 1, 1) := by decide +kernel
theorem dX12_told_41 : decode cX12_told 41 = .ok (.iconst 1, 1) := by decide +kernel
theorem dX12_told_42 : decode cX12_told 42 = .ok (.if_icmp .ne 12, 3) := by decide +kernel
theorem dX12_told_45 : decode cX12_told 45 = .ok (.aload_n 0, 1) := by decide +kernel
theorem dX12_told_46 : decode cX12_told 46 = .ok (.getfield 32, 3) := by decide +kernel
theorem dX12_told_49 : decode cX12_told 49 = .ok (.iconst 0, 1) := by decide +kernel
theorem dX12_told_50 : decode cX12_told 50 = .ok (.iaload, 1) := by decide +kernel
theorem dX12_told_51 : decode cX12_told 51 = .ok (.goto 16, 3) := by decide +kernel
theorem dX12_told_54 : decode cX12_told 54 = .ok (.iload_n 1, 1) := by decide +kernel
theorem dX12_told_55 : decode cX12_told 55 = .ok (.iconst 2, 1) := by decide +kernel
theorem dX12_told_56 : decode cX12_told 56 = .ok (.if_icmp .ne 10, 3) := by decide +kernel
theorem dX12_told_59 : decode cX12_told 59 = .ok (.aload_n 0, 1) := by decide +kernel
theorem dX12_told_60 : decode cX12_told 60 = .ok (.getfield 109, 3) := by decide +kernel
theorem dX12_told_63 : decode cX12_told 63 = .ok (.goto 4, 3) := by decide +kernel
theorem dX12_told_66 : decode cX12_told 66 = .ok (.iconst (-1), 1) := by decide +kernel
theorem dX12_told_67 : decode cX12_told 67 = .ok (.ireturn, 1) := by decide +kernel
