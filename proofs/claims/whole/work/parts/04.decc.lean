theorem dX12_isIn_0 : decode cX12_isIn 0 = .ok (.lload_n 0, 1) := by decide +kernel
theorem dX12_isIn_1 : decode cX12_isIn 1 = .ok (.lload_n 2, 1) := by decide +kernel
theorem dX12_isIn_2 : decode cX12_isIn 2 = .ok (.lcmp, 1) := by decide +kernel
theorem dX12_isIn_3 : decode cX12_isIn 3 = .ok (.ifCond .lt 14, 3) := by decide +kernel
theorem dX12_isIn_6 : decode cX12_isIn 6 = .ok (.lload_n 0, 1) := by decide +kernel
theorem dX12_isIn_7 : decode cX12_isIn 7 = .ok (.lload 4, 2) := by decide +kernel
theorem dX12_isIn_9 : decode cX12_isIn 9 = .ok (.lcmp, 1) := by decide +kernel
theorem dX12_isIn_10 : decode cX12_isIn 10 = .ok (.ifCond .gt 7, 3) := by decide +kernel
theorem dX12_isIn_13 : decode cX12_isIn 13 = .ok (.iconst 1, 1) := by decide +kernel
theorem dX12_isIn_14 : decode cX12_isIn 14 = .ok (.goto 4, 3) := by decide +kernel
theorem dX12_isIn_17 : decode cX12_isIn 17 = .ok (.iconst 0, 1) := by decide +kernel
theorem dX12_isIn_18 : decode cX12_isIn 18 = .ok (.ireturn, 1) := by decide +kernel
theorem dX12_copies_0 : decode cX12_copies 0 = .ok (.iconst 0, 1) := by decide +kernel
theorem dX12_copies_1 : decode cX12_copies 1 = .ok (.istore 5, 2) := by decide +kernel
theorem dX12_copies_3 : decode cX12_copies 3 = .ok (.iload 5, 2) := by decide +kernel
theorem dX12_copies_5 : decode cX12_copies 5 = .ok (.iload 4, 2) := by decide +kernel
theorem dX12_copies_7 : decode cX12_copies 7 = .ok (.if_icmp .ge 21, 3) := by decide +kernel
theorem dX12_copies_10 : decode cX12_copies 10 = .ok (.aload_n 2, 1) := by decide +kernel
theorem dX12_copies_11 : decode cX12_copies 11 = .ok (.iload_n 3, 1) := by decide +kernel
theorem dX12_copies_12 : decode cX12_copies 12 = .ok (.iload 5, 2) := by decide +kernel
theorem dX12_copies_14 : decode cX12_copies 14 = .ok (.iadd, 1) := by decide +kernel
theorem dX12_copies_15 : decode cX12_copies 15 = .ok (.aload_n 0, 1) := by decide +kernel
theorem dX12_copies_16 : decode cX12_copies 16 = .ok (.iload_n 1, 1) := by decide +kernel
theorem dX12_copies_17 : decode cX12_copies 17 = .ok (.iload 5, 2) := by decide +kernel
theorem dX12_copies_19 : decode cX12_copies 19 = .ok (.iadd, 1) := by decide +kernel
theorem dX12_copies_20 : decode cX12_copies 20 = .ok (.iaload, 1) := by decide +kernel
theorem dX12_copies_21 : decode cX12_copies 21 = .ok (.iastore, 1) := by decide +kernel
theorem dX12_copies_22 : decode cX12_copies 22 = .ok (.iinc 5 1, 3) := by decide +kernel
theorem dX12_copies_25 : decode cX12_copies 25 = .ok (.goto (-22), 3) := by decide +kernel
theorem dX12_copies_28 : decode cX12_copies 28 = .ok (.return_, 1) := by decide +kernel
theorem dX12_init_0 : decode cX12_init 0 = .ok (.aload_n 0, 1) := by decide +kernel
theorem dX12_init_1 : decode cX12_init 1 = .ok (.invokespecial 7, 3) := by decide +kernel
theorem dX12_init_4 : decode cX12_init 4 = .ok (.aload_n 0, 1) := by decide +kernel
theorem dX12_init_5 : decode cX12_init 5 = .ok (.bipush 7, 2) := by decide +kernel
theorem dX12_init_7 : decode cX12_init 7 = .ok (.newarray .int, 2) := by decide +kernel
theorem dX12_init_9 : decode cX12_init 9 = .ok (.dup, 1) := by decide +kernel
theorem dX12_init_10 : decode cX12_init 10 = .ok (.iconst 0, 1) := by decide +kernel
theorem dX12_init_11 : decode cX12_init 11 = .ok (.bipush 48, 2) := by decide +kernel
theorem dX12_init_13 : decode cX12_init 13 = .ok (.iastore, 1) := by decide +kernel
theorem dX12_init_14 : decode cX12_init 14 = .ok (.dup, 1) := by decide +kernel
theorem dX12_init_15 : decode cX12_init 15 = .ok (.iconst 1, 1) := by decide +kernel
theorem dX12_init_16 : decode cX12_init 16 = .ok (.bipush 7, 2) := by decide +kernel
theorem dX12_init_18 : decode cX12_init 18 = .ok (.iastore, 1) := by decide +kernel
theorem dX12_init_19 : decode cX12_init 19 = .ok (.dup, 1) := by decide +kernel
theorem dX12_init_20 : decode cX12_init 20 = .ok (.iconst 2, 1) := by decide +kernel
theorem dX12_init_21 : decode cX12_init 21 = .ok (.bipush 6, 2) := by decide +kernel
theorem dX12_init_23 : decode cX12_init 23 = .ok (.iastore, 1) := by decide +kernel
theorem dX12_init_24 : decode cX12_init 24 = .ok (.dup, 1) := by decide +kernel
theorem dX12_init_25 : decode cX12_init 25 = .ok (.iconst 3, 1) := by decide +kernel
theorem dX12_init_26 : decode cX12_init 26 = .ok (.iconst 1, 1) := by decide +kernel
theorem dX12_init_27 : decode cX12_init 27 = .ok (.iastore, 1) := by decide +kernel
theorem dX12_init_28 : decode cX12_init 28 = .ok (.dup, 1) := by decide +kernel
theorem dX12_init_29 : decode cX12_init 29 = .ok (.iconst 4, 1) := by decide +kernel
theorem dX12_init_30 : decode cX12_init 30 = .ok (.sipush 800, 3) := by decide +kernel
theorem dX12_init_33 : decode cX12_init 33 = .ok (.iastore, 1) := by decide +kernel
theorem dX12_init_34 : decode cX12_init 34 = .ok (.dup, 1) := by decide +kernel
theorem dX12_init_35 : decode cX12_init 35 = .ok (.iconst 5, 1) := by decide +kernel
theorem dX12_init_36 : decode cX12_init 36 = .ok (.iconst 0, 1) := by decide +kernel
theorem dX12_init_37 : decode cX12_init 37 = .ok (.iastore, 1) := by decide +kernel
theorem dX12_init_38 : decode cX12_init 38 = .ok (.dup, 1) := by decide +kernel
theorem dX12_init_39 : decode cX12_init 39 = .ok (.bipush 6, 2) := by decide +kernel
theorem dX12_init_41 : decode cX12_init 41 = .ok (.iconst 1, 1) := by decide +kernel
theorem dX12_init_42 : decode cX12_init 42 = .ok (.iastore, 1) := by decide +kernel
theorem dX12_init_43 : decode cX12_init 43 = .ok (.putfield 13, 3) := by decide +kernel
theorem dX12_init_46 : decode cX12_init 46 = .ok (.aload_n 0, 1) := by decide +kernel
theorem dX12_init_47 : decode cX12_init 47 = .ok (.bipush 7, 2) := by decide +kernel
theorem dX12_init_49 : decode cX12_init 49 = .ok (.newarray .int, 2) := by decide +kernel
theorem dX12_init_51 : decode cX12_init 51 = .ok (.dup, 1) := by decide +kernel
theorem dX12_init_52 : decode cX12_init 52 = .ok (.iconst 0, 1) := by decide +kernel
theorem dX12_init_53 : decode cX12_init 53 = .ok (.iconst 4, 1) := by decide +kernel
theorem dX12_init_54 : decode cX12_init 54 = .ok (.iastore, 1) := by decide +kernel
theorem dX12_init_55 : decode cX12_init 55 = .ok (.dup, 1) := by decide +kernel
theorem dX12_init_56 : decode cX12_init 56 = .ok (.iconst 1, 1) := by decide +kernel
theorem dX12_init_57 : decode cX12_init 57 = .ok (.iconst 1, 1) := by decide +kernel
theorem dX12_init_58 : decode cX12_init 58 = .ok (.iastore, 1) := by decide +kernel
theorem dX12_init_59 : decode cX12_init 59 = .ok (.dup, 1) := by decide +kernel
theorem dX12_init_60 : decode cX12_init 60 = .ok (.iconst 2, 1) := by decide +kernel
theorem dX12_init_61 : decode cX12_init 61 = .ok (.iconst 1, 1) := by decide +kernel
theorem dX12_init_62 : decode cX12_init 62 = .ok (.iastore, 1) := by decide +kernel
theorem dX12_init_63 : decode cX12_init 63 = .ok (.dup, 1) := by decide +kernel
theorem dX12_init_64 : decode cX12_init 64 = .ok (.iconst 3, 1) := by decide +kernel
theorem dX12_init_65 : decode cX12_init 65 = .ok (.iconst 0, 1) := by decide +kernel
theorem dX12_init_66 : decode cX12_init 66 = .ok (.iastore, 1) := by decide +kernel
theorem dX12_init_67 : decode cX12_init 67 = .ok (.dup, 1) := by decide +kernel
theorem dX12_init_68 : decode cX12_init 68 = .ok (.iconst 4, 1) := by decide +kernel
theorem dX12_init_69 : decode cX12_init 69 = .ok (.bipush 40, 2) := by decide +kernel
theorem dX12_init_71 : decode cX12_init 71 = .ok (.iastore, 1) := by decide +kernel
theorem dX12_init_72 : decode cX12_init 72 = .ok (.dup, 1) := by decide +kernel
theorem dX12_init_73 : decode cX12_init 73 = .ok (.iconst 5, 1) := by decide +kernel
theorem dX12_init_74 : decode cX12_init 74 = .ok (.iconst 0, 1) := by decide +kernel
theorem dX12_init_75 : decode cX12_init 75 = .ok (.iastore, 1) := by decide +kernel
theorem dX12_init_76 : decode cX12_init 76 = .ok (.dup, 1) := by decide +kernel
theorem dX12_init_77 : decode cX12_init 77 = .ok (.bipush 6, 2) := by decide +kernel
theorem dX12_init_79 : decode cX12_init 79 = .ok (.iconst 1, 1) := by decide +kernel
theorem dX12_init_80 : decode cX12_init 80 = .ok (.iastore, 1) := by decide +kernel
theorem dX12_init_81 : decode cX12_init 81 = .ok (.putfield 17, 3) := by decide +kernel
theorem dX12_init_84 : decode cX12_init 84 = .ok (.aload_n 0, 1) := by decide +kernel
theorem dX12_init_85 : decode cX12_init 85 = .ok (.bipush 7, 2) := by decide +kernel
theorem dX12_init_87 : decode cX12_init 87 = .ok (.newarray .int, 2) := by decide +kernel
theorem dX12_init_89 : decode cX12_init 89 = .ok (.dup, 1) := by decide +kernel
theorem dX12_init_90 : decode cX12_init 90 = .ok (.iconst 0, 1) := by decide +kernel
theorem dX12_init_91 : decode cX12_init 91 = .ok (.bipush 48, 2) := by decide +kernel
theorem dX12_init_93 : decode cX12_init 93 = .ok (.iastore, 1) := by decide +kernel
theorem dX12_init_94 : decode cX12_init 94 = .ok (.dup, 1) := by decide +kernel
theorem dX12_init_95 : decode cX12_init 95 = .ok (.iconst 1, 1) := by decide +kernel
theorem dX12_init_96 : decode cX12_init 96 = .ok (.bipush 15, 2) := by decide +kernel
theorem dX12_init_98 : decode cX12_init 98 = .ok (.iastore, 1) := by decide +kernel
theorem dX12_init_99 : decode cX12_init 99 = .ok (.dup, 1) := by decide +kernel
theorem dX12_init_100 : decode cX12_init 100 = .ok (.iconst 2, 1) := by decide +kernel
theorem dX12_init_101 : decode cX12_init 101 = .ok (.bipush 15, 2) := by decide +kernel
theorem dX12_init_103 : decode cX12_init 103 = .ok (.iastore, 1) := by decide +kernel
theorem dX12_init_104 : decode cX12_init 104 = .ok (.dup, 1) := by decide +kernel
theorem dX12_init_105 : decode cX12_init 105 = .ok (.iconst 3, 1) := by decide +kernel
theorem dX12_init_106 : decode cX12_init 106 = .ok (.iconst 1, 1) := by decide +kernel
theorem dX12_init_107 : decode cX12_init 107 = .ok (.iastore, 1) := by decide +kernel
theorem dX12_init_108 : decode cX12_init 108 = .ok (.dup, 1) := by decide +kernel
theorem dX12_init_109 : decode cX12_init 109 = .ok (.iconst 4, 1) := by decide +kernel
theorem dX12_init_110 : decode cX12_init 110 = .ok (.sipush 4000, 3) := by decide +kernel
theorem dX12_init_113 : decode cX12_init 113 = .ok (.iastore, 1) := by decide +kernel
theorem dX12_init_114 : decode cX12_init 114 = .ok (.dup, 1) := by decide +kernel
theorem dX12_init_115 : decode cX12_init 115 = .ok (.iconst 5, 1) := by decide +kernel
theorem dX12_init_116 : decode cX12_init 116 = .ok (.iconst 1, 1) := by decide +kernel
theorem dX12_init_117 : decode cX12_init 117 = .ok (.iastore, 1) := by decide +kernel
theorem dX12_init_118 : decode cX12_init 118 = .ok (.dup, 1) := by decide +kernel
theorem dX12_init_119 : decode cX12_init 119 = .ok (.bipush 6, 2) := by decide +kernel
theorem dX12_init_121 : decode cX12_init 121 = .ok (.bipush 8, 2) := by decide +kernel
theorem dX12_init_123 : decode cX12_init 123 = .ok (.iastore, 1) := by decide +kernel
theorem dX12_init_124 : decode cX12_init 124 = .ok (.putfield 20, 3) := by decide +kernel
theorem dX12_init_127 : decode cX12_init 127 = .ok (.aload_n 0, 1) := by decide +kernel
theorem dX12_init_128 : decode cX12_init 128 = .ok (.sipush 9600, 3) := by decide +kernel
theorem dX12_init_131 : decode cX12_init 131 = .ok (.newarray .int, 2) := by decide +kernel
theorem dX12_init_133 : decode cX12_init 133 = .ok (.putfield 23, 3) := by decide +kernel
theorem dX12_init_136 : decode cX12_init 136 = .ok (.aload_n 0, 1) := by decide +kernel
theorem dX12_init_137 : decode cX12_init 137 = .ok (.sipush 3200, 3) := by decide +kernel
theorem dX12_init_140 : decode cX12_init 140 = .ok (.newarray .int, 2) := by decide +kernel
theorem dX12_init_142 : decode cX12_init 142 = .ok (.putfield 26, 3) := by decide +kernel
theorem dX12_init_145 : decode cX12_init 145 = .ok (.aload_n 0, 1) := by decide +kernel
theorem dX12_init_146 : decode cX12_init 146 = .ok (.sipush 10496, 3) := by decide +kernel
theorem dX12_init_149 : decode cX12_init 149 = .ok (.newarray .int, 2) := by decide +kernel
theorem dX12_init_151 : decode cX12_init 151 = .ok (.putfield 29, 3) := by decide +kernel
theorem dX12_init_154 : decode cX12_init 154 = .ok (.aload_n 0, 1) := by decide +kernel
theorem dX12_init_155 : decode cX12_init 155 = .ok (.sipush 875, 3) := by decide +kernel
theorem dX12_init_158 : decode cX12_init 158 = .ok (.newarray .int, 2) := by decide +kernel
theorem dX12_init_160 : decode cX12_init 160 = .ok (.putfield 32, 3) := by decide +kernel
theorem dX12_init_163 : decode cX12_init 163 = .ok (.aload_n 0, 1) := by decide +kernel
theorem dX12_init_164 : decode cX12_init 164 = .ok (.sipush 875, 3) := by decide +kernel
theorem dX12_init_167 : decode cX12_init 167 = .ok (.newarray .int, 2) := by decide +kernel
theorem dX12_init_169 : decode cX12_init 169 = .ok (.putfield 35, 3) := by decide +kernel
theorem dX12_init_172 : decode cX12_init 172 = .ok (.aload_n 0, 1) := by decide +kernel
theorem dX12_init_173 : decode cX12_init 173 = .ok (.sipush 9600, 3) := by decide +kernel
theorem dX12_init_176 : decode cX12_init 176 = .ok (.newarray .int, 2) := by decide +kernel
theorem dX12_init_178 : decode cX12_init 178 = .ok (.putfield 38, 3) := by decide +kernel
theorem dX12_init_181 : decode cX12_init 181 = .ok (.aload_n 0, 1) := by decide +kernel
theorem dX12_init_182 : decode cX12_init 182 = .ok (.sipush 9600, 3) := by decide +kernel
theorem dX12_init_185 : decode cX12_init 185 = .ok (.newarray .int, 2) := by decide +kernel
theorem dX12_init_187 : decode cX12_init 187 = .ok (.putfield 41, 3) := by decide +kernel
theorem dX12_init_190 : decode cX12_init 190 = .ok (.aload_n 0, 1) := by decide +kernel
theorem dX12_init_191 : decode cX12_init 191 = .ok (.bipush 64, 2) := by decide +kernel
theorem dX12_init_193 : decode cX12_init 193 = .ok (.newarray .boolean, 2) := by decide +kernel
theorem dX12_init_195 : decode cX12_init 195 = .ok (.putfield 44, 3) := by decide +kernel
theorem dX12_init_198 : decode cX12_init 198 = .ok (.aload_n 0, 1) := by decide +kernel
theorem dX12_init_199 : decode cX12_init 199 = .ok (.sipush 424, 3) := by decide +kernel
theorem dX12_init_202 : decode cX12_init 202 = .ok (.newarray .int, 2) := by decide +kernel
theorem dX12_init_204 : decode cX12_init 204 = .ok (.putfield 48, 3) := by decide +kernel
theorem dX12_init_207 : decode cX12_init 207 = .ok (.aload_n 0, 1) := by decide +kernel
theorem dX12_init_208 : decode cX12_init 208 = .ok (.sipush 10496, 3) := by decide +kernel
theorem dX12_init_211 : decode cX12_init 211 = .ok (.newarray .long, 2) := by decide +kernel
theorem dX12_init_213 : decode cX12_init 213 = .ok (.putfield 51, 3) := by decide +kernel
theorem dX12_init_216 : decode cX12_init 216 = .ok (.aload_n 0, 1) := by decide +kernel
theorem dX12_init_217 : decode cX12_init 217 = .ok (.sipush 10496, 3) := by decide +kernel
theorem dX12_init_220 : decode cX12_init 220 = .ok (.newarray .long, 2) := by decide +kernel
theorem dX12_init_222 : decode cX12_init 222 = .ok (.putfield 55, 3) := by decide +kernel
theorem dX12_init_225 : decode cX12_init 225 = .ok (.aload_n 0, 1) := by decide +kernel
theorem dX12_init_226 : decode cX12_init 226 = .ok (.bipush 16, 2) := by decide +kernel
theorem dX12_init_228 : decode cX12_init 228 = .ok (.newarray .long, 2) := by decide +kernel
theorem dX12_init_230 : decode cX12_init 230 = .ok (.putfield 58, 3) := by decide +kernel
theorem dX12_init_233 : decode cX12_init 233 = .ok (.aload_n 0, 1) := by decide +kernel
theorem dX12_init_234 : decode cX12_init 234 = .ok (.bipush 16, 2) := by decide +kernel
theorem dX12_init_236 : decode cX12_init 236 = .ok (.newarray .long, 2) := by decide +kernel
theorem dX12_init_238 : decode cX12_init 238 = .ok (.putfield 61, 3) := by decide +kernel
theorem dX12_init_241 : decode cX12_init 241 = .ok (.return_, 1) := by decide +kernel
theorem dX12_lays_0 : decode cX12_lays 0 = .ok (.aload_n 0, 1) := by decide +kernel
theorem dX12_lays_1 : decode cX12_lays 1 = .ok (.getfield 23, 3) := by decide +kernel
theorem dX12_lays_4 : decode cX12_lays 4 = .ok (.aload_n 0, 1) := by decide +kernel
theorem dX12_lays_5 : decode cX12_lays 5 = .ok (.getfield 64, 3) := by decide +kernel
theorem dX12_lays_8 : decode cX12_lays 8 = .ok (.iload_n 1, 1) := by decide +kernel
theorem dX12_lays_9 : decode cX12_lays 9 = .ok (.iastore, 1) := by decide +kernel
theorem dX12_lays_10 : decode cX12_lays 10 = .ok (.aload_n 0, 1) := by decide +kernel
theorem dX12_lays_11 : decode cX12_lays 11 = .ok (.dup, 1) := by decide +kernel
theorem dX12_lays_12 : decode cX12_lays 12 = .ok (.getfield 64, 3) := by decide +kernel
theorem dX12_lays_15 : decode cX12_lays 15 = .ok (.iconst 1, 1) := by decide +kernel
theorem dX12_lays_16 : decode cX12_lays 16 = .ok (.iadd, 1) := by decide +kernel
theorem dX12_lays_17 : decode cX12_lays 17 = .ok (.putfield 64, 3) := by decide +kernel
theorem dX12_lays_20 : decode cX12_lays 20 = .ok (.return_, 1) := by decide +kernel
theorem dX12_laysBits_0 : decode cX12_laysBits 0 = .ok (.iload_n 1, 1) := by decide +kernel
theorem dX12_laysBits_1 : decode cX12_laysBits 1 = .ok (.iconst 1, 1) := by decide +kernel
theorem dX12_laysBits_2 : decode cX12_laysBits 2 = .ok (.isub, 1) := by decide +kernel
theorem dX12_laysBits_3 : decode cX12_laysBits 3 = .ok (.istore_n 3, 1) := by decide +kernel
theorem dX12_laysBits_4 : decode cX12_laysBits 4 = .ok (.iload_n 3, 1) := by decide +kernel
theorem dX12_laysBits_5 : decode cX12_laysBits 5 = .ok (.ifCond .lt 18, 3) := by decide +kernel
theorem dX12_laysBits_8 : decode cX12_laysBits 8 = .ok (.aload_n 0, 1) := by decide +kernel
theorem dX12_laysBits_9 : decode cX12_laysBits 9 = .ok (.iload_n 2, 1) := by decide +kernel
theorem dX12_laysBits_10 : decode cX12_laysBits 10 = .ok (.iload_n 3, 1) := by decide +kernel
theorem dX12_laysBits_11 : decode cX12_laysBits 11 = .ok (.iushr, 1) := by decide +kernel
theorem dX12_laysBits_12 : decode cX12_laysBits 12 = .ok (.iconst 1, 1) := by decide +kernel
theorem dX12_laysBits_13 : decode cX12_laysBits 13 = .ok (.iand, 1) := by decide +kernel
theorem dX12_laysBits_14 : decode cX12_laysBits 14 = .ok (.invokevirtual 67, 3) := by decide +kernel
theorem dX12_laysBits_17 : decode cX12_laysBits 17 = .ok (.iinc 3 (-1), 3) := by decide +kernel
theorem dX12_laysBits_20 : decode cX12_laysBits 20 = .ok (.goto (-16), 3) := by decide +kernel
theorem dX12_laysBits_23 : decode cX12_laysBits 23 = .ok (.return_, 1) := by decide +kernel
theorem dX12_feed_0 : decode cX12_feed 0 = .ok (.aload_n 0, 1) := by decide +kernel
theorem dX12_feed_1 : decode cX12_feed 1 = .ok (.iconst 0, 1) := by decide +kernel
theorem dX12_feed_2 : decode cX12_feed 2 = .ok (.putfield 1, 3) := by decide +kernel
theorem dX12_feed_5 : decode cX12_feed 5 = .ok (.aload_n 0, 1) := by decide +kernel
theorem dX12_feed_6 : decode cX12_feed 6 = .ok (.getfield 64, 3) := by decide +kernel
theorem dX12_feed_9 : decode cX12_feed 9 = .ok (.sipush 160, 3) := by decide +kernel
theorem dX12_feed_12 : decode cX12_feed 12 = .ok (.iadd, 1) := by decide +kernel
theorem dX12_feed_13 : decode cX12_feed 13 = .ok (.sipush 9600, 3) := by decide +kernel
theorem dX12_feed_16 : decode cX12_feed 16 = .ok (.if_icmp .le 6, 3) := by decide +kernel
theorem dX12_feed_19 : decode cX12_feed 19 = .ok (.bipush (-4), 2) := by decide +kernel
theorem dX12_feed_21 : decode cX12_feed 21 = .ok (.ireturn, 1) := by decide +kernel
theorem dX12_feed_22 : decode cX12_feed 22 = .ok (.aload_n 0, 1) := by decide +kernel
theorem dX12_feed_23 : decode cX12_feed 23 = .ok (.bipush 32, 2) := by decide +kernel
theorem dX12_feed_25 : decode cX12_feed 25 = .ok (.iload_n 1, 1) := by decide +kernel
theorem dX12_feed_26 : decode cX12_feed 26 = .ok (.invokevirtual 71, 3) := by decide +kernel
theorem dX12_feed_29 : decode cX12_feed 29 = .ok (.aload_n 0, 1) := by decide +kernel
theorem dX12_feed_30 : decode cX12_feed 30 = .ok (.bipush 32, 2) := by decide +kernel
theorem dX12_feed_32 : decode cX12_feed 32 = .ok (.iload_n 2, 1) := by decide +kernel
theorem dX12_feed_33 : decode cX12_feed 33 = .ok (.invokevirtual 71, 3) := by decide +kernel
theorem dX12_feed_36 : decode cX12_feed 36 = .ok (.aload_n 0, 1) := by decide +kernel
theorem dX12_feed_37 : decode cX12_feed 37 = .ok (.bipush 32, 2) := by decide +kernel
theorem dX12_feed_39 : decode cX12_feed 39 = .ok (.iload_n 3, 1) := by decide +kernel
theorem dX12_feed_40 : decode cX12_feed 40 = .ok (.invokevirtual 71, 3) := by decide +kernel
theorem dX12_feed_43 : decode cX12_feed 43 = .ok (.aload_n 0, 1) := by decide +kernel
theorem dX12_feed_44 : decode cX12_feed 44 = .ok (.bipush 32, 2) := by decide +kernel
theorem dX12_feed_46 : decode cX12_feed 46 = .ok (.iload 4, 2) := by decide +kernel
theorem dX12_feed_48 : decode cX12_feed 48 = .ok (.invokevirtual 71, 3) := by decide +kernel
theorem dX12_feed_51 : decode cX12_feed 51 = .ok (.aload_n 0, 1) := by decide +kernel
theorem dX12_feed_52 : decode cX12_feed 52 = .ok (.bipush 32, 2) := by decide +kernel
theorem dX12_feed_54 : decode cX12_feed 54 = .ok (.iload 5, 2) := by decide +kernel
theorem dX12_feed_56 : decode cX12_feed 56 = .ok (.invokevirtual 71, 3) := by decide +kernel
theorem dX12_feed_59 : decode cX12_feed 59 = .ok (.aload_n 0, 1) := by decide +kernel
theorem dX12_feed_60 : decode cX12_feed 60 = .ok (.getfield 64, 3) := by decide +kernel
theorem dX12_feed_63 : decode cX12_feed 63 = .ok (.ireturn, 1) := by decide +kernel
theorem dX12_bits_0 : decode cX12_bits 0 = .ok (.aload_n 0, 1) := by decide +kernel
theorem dX12_bits_1 : decode cX12_bits 1 = .ok (.iconst 0, 1) := by decide +kernel
theorem dX12_bits_2 : decode cX12_bits 2 = .ok (.putfield 1, 3) := by decide +kernel
theorem dX12_bits_5 : decode cX12_bits 5 = .ok (.iload_n 1, 1) := by decide +kernel
theorem dX12_bits_6 : decode cX12_bits 6 = .ok (.i2l, 1) := by decide +kernel
theorem dX12_bits_7 : decode cX12_bits 7 = .ok (.lconst 1, 1) := by decide +kernel
theorem dX12_bits_8 : decode cX12_bits 8 = .ok (.ldc2_w 75, 3) := by decide +kernel
theorem dX12_bits_11 : decode cX12_bits 11 = .ok (.invokestatic 77, 3) := by decide +kernel
theorem dX12_bits_14 : decode cX12_bits 14 = .ok (.ifCond .ne 6, 3) := by decide +kernel
theorem dX12_bits_17 : decode cX12_bits 17 = .ok (.bipush (-3), 2) := by decide +kernel
theorem dX12_bits_19 : decode cX12_bits 19 = .ok (.ireturn, 1) := by decide +kernel
theorem dX12_bits_20 : decode cX12_bits 20 = .ok (.aload_n 0, 1) := by decide +kernel
theorem dX12_bits_21 : decode cX12_bits 21 = .ok (.getfield 64, 3) := by decide +kernel
theorem dX12_bits_24 : decode cX12_bits 24 = .ok (.iload_n 1, 1) := by decide +kernel
theorem dX12_bits_25 : decode cX12_bits 25 = .ok (.iadd, 1) := by decide +kernel
theorem dX12_bits_26 : decode cX12_bits 26 = .ok (.sipush 9600, 3) := by decide +kernel
theorem dX12_bits_29 : decode cX12_bits 29 = .ok (.if_icmp .le 6, 3) := by decide +kernel
theorem dX12_bits_32 : decode cX12_bits 32 = .ok (.bipush (-4), 2) := by decide +kernel
theorem dX12_bits_34 : decode cX12_bits 34 = .ok (.ireturn, 1) := by decide +kernel
theorem dX12_bits_35 : decode cX12_bits 35 = .ok (.aload_n 0, 1) := by decide +kernel
theorem dX12_bits_36 : decode cX12_bits 36 = .ok (.iload_n 1, 1) := by decide +kernel
theorem dX12_bits_37 : decode cX12_bits 37 = .ok (.iload_n 2, 1) := by decide +kernel
theorem dX12_bits_38 : decode cX12_bits 38 = .ok (.invokevirtual 71, 3) := by decide +kernel
theorem dX12_bits_41 : decode cX12_bits 41 = .ok (.aload_n 0, 1) := by decide +kernel
theorem dX12_bits_42 : decode cX12_bits 42 = .ok (.getfield 64, 3) := by decide +kernel
theorem dX12_bits_45 : decode cX12_bits 45 = .ok (.ireturn, 1) := by decide +kernel
theorem dX12_restOf_0 : decode cX12_restOf 0 = .ok (.iconst 0, 1) := by decide +kernel
theorem dX12_restOf_1 : decode cX12_restOf 1 = .ok (.istore_n 1, 1) := by decide +kernel
theorem dX12_restOf_2 : decode cX12_restOf 2 = .ok (.bipush 31, 2) := by decide +kernel
theorem dX12_restOf_4 : decode cX12_restOf 4 = .ok (.istore_n 2, 1) := by decide +kernel
theorem dX12_restOf_5 : decode cX12_restOf 5 = .ok (.iload_n 2, 1) := by decide +kernel
theorem dX12_restOf_6 : decode cX12_restOf 6 = .ok (.ifCond .lt 40, 3) := by decide +kernel
theorem dX12_restOf_9 : decode cX12_restOf 9 = .ok (.iload_n 1, 1) := by decide +kernel
theorem dX12_restOf_10 : decode cX12_restOf 10 = .ok (.bipush 7, 2) := by decide +kernel
theorem dX12_restOf_12 : decode cX12_restOf 12 = .ok (.ishr, 1) := by decide +kernel
theorem dX12_restOf_13 : decode cX12_restOf 13 = .ok (.iload_n 0, 1) := by decide +kernel
theorem dX12_restOf_14 : decode cX12_restOf 14 = .ok (.iload_n 2, 1) := by decide +kernel
theorem dX12_restOf_15 : decode cX12_restOf 15 = .ok (.iushr, 1) := by decide +kernel
theorem dX12_restOf_16 : decode cX12_restOf 16 = .ok (.iconst 1, 1) := by decide +kernel
theorem dX12_restOf_17 : decode cX12_restOf 17 = .ok (.iand, 1) := by decide +kernel
theorem dX12_restOf_18 : decode cX12_restOf 18 = .ok (.ixor, 1) := by decide +kernel
theorem dX12_restOf_19 : decode cX12_restOf 19 = .ok (.istore_n 3, 1) := by decide +kernel
theorem dX12_restOf_20 : decode cX12_restOf 20 = .ok (.iload_n 1, 1) := by decide +kernel
theorem dX12_restOf_21 : decode cX12_restOf 21 = .ok (.iconst 1, 1) := by decide +kernel
theorem dX12_restOf_22 : decode cX12_restOf 22 = .ok (.ishl, 1) := by decide +kernel
theorem dX12_restOf_23 : decode cX12_restOf 23 = .ok (.sipush 255, 3) := by decide +kernel
theorem dX12_restOf_26 : decode cX12_restOf 26 = .ok (.iand, 1) := by decide +kernel
theorem dX12_restOf_27 : decode cX12_restOf 27 = .ok (.istore_n 1, 1) := by decide +kernel
theorem dX12_restOf_28 : decode cX12_restOf 28 = .ok (.iload_n 3, 1) := by decide +kernel
theorem dX12_restOf_29 : decode cX12_restOf 29 = .ok (.iconst 1, 1) := by decide +kernel
theorem dX12_restOf_30 : decode cX12_restOf 30 = .ok (.iand, 1) := by decide +kernel
theorem dX12_restOf_31 : decode cX12_restOf 31 = .ok (.iconst 1, 1) := by decide +kernel
theorem dX12_restOf_32 : decode cX12_restOf 32 = .ok (.if_icmp .ne 8, 3) := by decide +kernel
theorem dX12_restOf_35 : decode cX12_restOf 35 = .ok (.iload_n 1, 1) := by decide +kernel
theorem dX12_restOf_36 : decode cX12_restOf 36 = .ok (.bipush 7, 2) := by decide +kernel
theorem dX12_restOf_38 : decode cX12_restOf 38 = .ok (.ixor, 1) := by decide +kernel
theorem dX12_restOf_39 : decode cX12_restOf 39 = .ok (.istore_n 1, 1) := by decide +kernel
theorem dX12_restOf_40 : decode cX12_restOf 40 = .ok (.iinc 2 (-1), 3) := by decide +kernel
theorem dX12_restOf_43 : decode cX12_restOf 43 = .ok (.goto (-38), 3) := by decide +kernel
theorem dX12_restOf_46 : decode cX12_restOf 46 = .ok (.iload_n 1, 1) := by decide +kernel
theorem dX12_restOf_47 : decode cX12_restOf 47 = .ok (.ireturn, 1) := by decide +kernel
theorem dX12_checkOf_0 : decode cX12_checkOf 0 = .ok (.iload_n 0, 1) := by decide +kernel
theorem dX12_checkOf_1 : decode cX12_checkOf 1 = .ok (.invokestatic 81, 3) := by decide +kernel
theorem dX12_checkOf_4 : decode cX12_checkOf 4 = .ok (.bipush 85, 2) := by decide +kernel
theorem dX12_checkOf_6 : decode cX12_checkOf 6 = .ok (.ixor, 1) := by decide +kernel
theorem dX12_checkOf_7 : decode cX12_checkOf 7 = .ok (.ireturn, 1) := by decide +kernel
theorem dX12_markOf_0 : decode cX12_markOf 0 = .ok (.iload_n 0, 1) := by decide +kernel
theorem dX12_markOf_1 : decode cX12_markOf 1 = .ok (.bipush 32, 2) := by decide +kernel
theorem dX12_markOf_3 : decode cX12_markOf 3 = .ok (.if_icmp .ge 15, 3) := by decide +kernel
theorem dX12_markOf_6 : decode cX12_markOf 6 = .ok (.iconst 1, 1) := by decide +kernel
theorem dX12_markOf_7 : decode cX12_markOf 7 = .ok (.bipush 31, 2) := by decide +kernel
theorem dX12_markOf_9 : decode cX12_markOf 9 = .ok (.iload_n 0, 1) := by decide +kernel
theorem dX12_markOf_10 : decode cX12_markOf 10 = .ok (.isub, 1) := by decide +kernel
theorem dX12_markOf_11 : decode cX12_markOf 11 = .ok (.ishl, 1) := by decide +kernel
theorem dX12_markOf_12 : decode cX12_markOf 12 = .ok (.invokestatic 81, 3) := by decide +kernel
theorem dX12_markOf_15 : decode cX12_markOf 15 = .ok (.goto 9, 3) := by decide +kernel
theorem dX12_markOf_18 : decode cX12_markOf 18 = .ok (.iconst 1, 1) := by decide +kernel
theorem dX12_markOf_19 : decode cX12_markOf 19 = .ok (.bipush 39, 2) := by decide +kernel
theorem dX12_markOf_21 : decode cX12_markOf 21 = .ok (.iload_n 0, 1) := by decide +kernel
theorem dX12_markOf_22 : decode cX12_markOf 22 = .ok (.isub, 1) := by decide +kernel
theorem dX12_markOf_23 : decode cX12_markOf 23 = .ok (.ishl, 1) := by decide +kernel
theorem dX12_markOf_24 : decode cX12_markOf 24 = .ok (.ireturn, 1) := by decide +kernel
theorem dX12_singleOf_0 : decode cX12_singleOf 0 = .ok (.iconst 0, 1) := by decide +kernel
theorem dX12_singleOf_1 : decode cX12_singleOf 1 = .ok (.istore_n 1, 1) := by decide +kernel
theorem dX12_singleOf_2 : decode cX12_singleOf 2 = .ok (.iload_n 1, 1) := by decide +kernel
theorem dX12_singleOf_3 : decode cX12_singleOf 3 = .ok (.bipush 40, 2) := by decide +kernel
theorem dX12_singleOf_5 : decode cX12_singleOf 5 = .ok (.if_icmp .ge 19, 3) := by decide +kernel
theorem dX12_singleOf_8 : decode cX12_singleOf 8 = .ok (.iload_n 1, 1) := by decide +kernel
theorem dX12_singleOf_9 : decode cX12_singleOf 9 = .ok (.invokestatic 85, 3) := by decide +kernel
theorem dX12_singleOf_12 : decode cX12_singleOf 12 = .ok (.iload_n 0, 1) := by decide +kernel
theorem dX12_singleOf_13 : decode cX12_singleOf 13 = .ok (.if_icmp .ne 5, 3) := by decide +kernel
theorem dX12_singleOf_16 : decode cX12_singleOf 16 = .ok (.iload_n 1, 1) := by decide +kernel
theorem dX12_singleOf_17 : decode cX12_singleOf 17 = .ok (.ireturn, 1) := by decide +kernel
theorem dX12_singleOf_18 : decode cX12_singleOf 18 = .ok (.iinc 1 1, 3) := by decide +kernel
theorem dX12_singleOf_21 : decode cX12_singleOf 21 = .ok (.goto (-19), 3) := by decide +kernel
theorem dX12_singleOf_24 : decode cX12_singleOf 24 = .ok (.iconst (-1), 1) := by decide +kernel
theorem dX12_singleOf_25 : decode cX12_singleOf 25 = .ok (.ireturn, 1) := by decide +kernel
theorem dX12_check_0 : decode cX12_check 0 = .ok (.aload_n 0, 1) := by decide +kernel
theorem dX12_check_1 : decode cX12_check 1 = .ok (.iconst 0, 1) := by decide +kernel
theorem dX12_check_2 : decode cX12_check 2 = .ok (.putfield 1, 3) := by decide +kernel
theorem dX12_check_5 : decode cX12_check 5 = .ok (.iload_n 1, 1) := by decide +kernel
theorem dX12_check_6 : decode cX12_check 6 = .ok (.invokestatic 88, 3) := by decide +kernel
theorem dX12_check_9 : decode cX12_check 9 = .ok (.ireturn, 1) := by decide +kernel
theorem dX12_syndrome_0 : decode cX12_syndrome 0 = .ok (.aload_n 0, 1) := by decide +kernel
theorem dX12_syndrome_1 : decode cX12_syndrome 1 = .ok (.iconst 0, 1) := by decide +kernel
theorem dX12_syndrome_2 : decode cX12_syndrome 2 = .ok (.putfield 1, 3) := by decide +kernel
theorem dX12_syndrome_5 : decode cX12_syndrome 5 = .ok (.iload_n 2, 1) := by decide +kernel
theorem dX12_syndrome_6 : decode cX12_syndrome 6 = .ok (.i2l, 1) := by decide +kernel
theorem dX12_syndrome_7 : decode cX12_syndrome 7 = .ok (.lconst 0, 1) := by decide +kernel
theorem dX12_syndrome_8 : decode cX12_syndrome 8 = .ok (.ldc2_w 91, 3) := by decide +kernel
theorem dX12_syndrome_11 : decode cX12_syndrome 11 = .ok (.invokestatic 77, 3) := by decide +kernel
theorem dX12_syndrome_14 : decode cX12_syndrome 14 = .ok (.ifCond .eq 12, 3) := by decide +kernel
theorem dX12_syndrome_17 : decode cX12_syndrome 17 = .ok (.iload_n 1, 1) := by decide +kernel
theorem dX12_syndrome_18 : decode cX12_syndrome 18 = .ok (.invokestatic 88, 3) := by decide +kernel
theorem dX12_syndrome_21 : decode cX12_syndrome 21 = .ok (.iload_n 2, 1) := by decide +kernel
theorem dX12_syndrome_22 : decode cX12_syndrome 22 = .ok (.ixor, 1) := by decide +kernel
theorem dX12_syndrome_23 : decode cX12_syndrome 23 = .ok (.goto 5, 3) := by decide +kernel
theorem dX12_syndrome_26 : decode cX12_syndrome 26 = .ok (.bipush (-3), 2) := by decide +kernel
theorem dX12_syndrome_28 : decode cX12_syndrome 28 = .ok (.ireturn, 1) := by decide +kernel
theorem dX12_single_0 : decode cX12_single 0 = .ok (.aload_n 0, 1) := by decide +kernel
theorem dX12_single_1 : decode cX12_single 1 = .ok (.iconst 0, 1) := by decide +kernel
theorem dX12_single_2 : decode cX12_single 2 = .ok (.putfield 1, 3) := by decide +kernel
theorem dX12_single_5 : decode cX12_single 5 = .ok (.iload_n 1, 1) := by decide +kernel
theorem dX12_single_6 : decode cX12_single 6 = .ok (.i2l, 1) := by decide +kernel
theorem dX12_single_7 : decode cX12_single 7 = .ok (.lconst 0, 1) := by decide +kernel
theorem dX12_single_8 : decode cX12_single 8 = .ok (.ldc2_w 91, 3) := by decide +kernel
theorem dX12_single_11 : decode cX12_single 11 = .ok (.invokestatic 77, 3) := by decide +kernel
theorem dX12_single_14 : decode cX12_single 14 = .ok (.ifCond .eq 10, 3) := by decide +kernel
theorem dX12_single_17 : decode cX12_single 17 = .ok (.iload_n 1, 1) := by decide +kernel
theorem dX12_single_18 : decode cX12_single 18 = .ok (.invokestatic 93, 3) := by decide +kernel
theorem dX12_single_21 : decode cX12_single 21 = .ok (.goto 5, 3) := by decide +kernel
theorem dX12_single_24 : decode cX12_single 24 = .ok (.bipush (-3), 2) := by decide +kernel
theorem dX12_single_26 : decode cX12_single 26 = .ok (.ireturn, 1) := by decide +kernel
theorem dX12_pairs_0 : decode cX12_pairs 0 = .ok (.aload_n 0, 1) := by decide +kernel
theorem dX12_pairs_1 : decode cX12_pairs 1 = .ok (.iconst 0, 1) := by decide +kernel
theorem dX12_pairs_2 : decode cX12_pairs 2 = .ok (.putfield 1, 3) := by decide +kernel
theorem dX12_pairs_5 : decode cX12_pairs 5 = .ok (.iload_n 1, 1) := by decide +kernel
theorem dX12_pairs_6 : decode cX12_pairs 6 = .ok (.i2l, 1) := by decide +kernel
theorem dX12_pairs_7 : decode cX12_pairs 7 = .ok (.lconst 0, 1) := by decide +kernel
theorem dX12_pairs_8 : decode cX12_pairs 8 = .ok (.ldc2_w 91, 3) := by decide +kernel
theorem dX12_pairs_11 : decode cX12_pairs 11 = .ok (.invokestatic 77, 3) := by decide +kernel
theorem dX12_pairs_14 : decode cX12_pairs 14 = .ok (.ifCond .eq 8, 3) := by decide +kernel
theorem dX12_pairs_17 : decode cX12_pairs 17 = .ok (.iload_n 2, 1) := by decide +kernel
theorem dX12_pairs_18 : decode cX12_pairs 18 = .ok (.iconst (-1), 1) := by decide +kernel
theorem dX12_pairs_19 : decode cX12_pairs 19 = .ok (.if_icmp .ge 6, 3) := by decide +kernel
theorem dX12_pairs_22 : decode cX12_pairs 22 = .ok (.bipush (-3), 2) := by decide +kernel
theorem dX12_pairs_24 : decode cX12_pairs 24 = .ok (.ireturn, 1) := by decide +kernel
theorem dX12_pairs_25 : decode cX12_pairs 25 = .ok (.iconst 0, 1) := by decide +kernel
theorem dX12_pairs_26 : decode cX12_pairs 26 = .ok (.istore_n 3, 1) := by decide +kernel
theorem dX12_pairs_27 : decode cX12_pairs 27 = .ok (.iconst 0, 1) := by decide +kernel
theorem dX12_pairs_28 : decode cX12_pairs 28 = .ok (.istore 4, 2) := by decide +kernel
theorem dX12_pairs_30 : decode cX12_pairs 30 = .ok (.iload 4, 2) := by decide +kernel
theorem dX12_pairs_32 : decode cX12_pairs 32 = .ok (.bipush 40, 2) := by decide +kernel
theorem dX12_pairs_34 : decode cX12_pairs 34 = .ok (.if_icmp .ge 63, 3) := by decide +kernel
theorem dX12_pairs_37 : decode cX12_pairs 37 = .ok (.iload 4, 2) := by decide +kernel
theorem dX12_pairs_39 : decode cX12_pairs 39 = .ok (.iconst 1, 1) := by decide +kernel
theorem dX12_pairs_40 : decode cX12_pairs 40 = .ok (.iadd, 1) := by decide +kernel
theorem dX12_pairs_41 : decode cX12_pairs 41 = .ok (.istore 5, 2) := by decide +kernel
theorem dX12_pairs_43 : decode cX12_pairs 43 = .ok (.iload 5, 2) := by decide +kernel
theorem dX12_pairs_45 : decode cX12_pairs 45 = .ok (.bipush 40, 2) := by decide +kernel
theorem dX12_pairs_47 : decode cX12_pairs 47 = .ok (.if_icmp .ge 44, 3) := by decide +kernel
theorem dX12_pairs_50 : decode cX12_pairs 50 = .ok (.iload 4, 2) := by decide +kernel
theorem dX12_pairs_52 : decode cX12_pairs 52 = .ok (.invokestatic 85, 3) := by decide +kernel
theorem dX12_pairs_55 : decode cX12_pairs 55 = .ok (.iload 5, 2) := by decide +kernel
theorem dX12_pairs_57 : decode cX12_pairs 57 = .ok (.invokestatic 85, 3) := by decide +kernel
theorem dX12_pairs_60 : decode cX12_pairs 60 = .ok (.ixor, 1) := by decide +kernel
theorem dX12_pairs_61 : decode cX12_pairs 61 = .ok (.iload_n 1, 1) := by decide +kernel
theorem dX12_pairs_62 : decode cX12_pairs 62 = .ok (.if_icmp .eq 6, 3) := by decide +kernel
theorem dX12_pairs_65 : decode cX12_pairs 65 = .ok (.goto 20, 3) := by decide +kernel
theorem dX12_pairs_68 : decode cX12_pairs 68 = .ok (.iload_n 3, 1) := by decide +kernel
theorem dX12_pairs_69 : decode cX12_pairs 69 = .ok (.iload_n 2, 1) := by decide +kernel
theorem dX12_pairs_70 : decode cX12_pairs 70 = .ok (.if_icmp .ne 12, 3) := by decide +kernel
theorem dX12_pairs_73 : decode cX12_pairs 73 = .ok (.bipush 100, 2) := by decide +kernel
theorem dX12_pairs_75 : decode cX12_pairs 75 = .ok (.iload 4, 2) := by decide +kernel
theorem dX12_pairs_77 : decode cX12_pairs 77 = .ok (.imul, 1) := by decide +kernel
theorem dX12_pairs_78 : decode cX12_pairs 78 = .ok (.iload 5, 2) := by decide +kernel
theorem dX12_pairs_80 : decode cX12_pairs 80 = .ok (.iadd, 1) := by decide +kernel
theorem dX12_pairs_81 : decode cX12_pairs 81 = .ok (.ireturn, 1) := by decide +kernel
theorem dX12_pairs_82 : decode cX12_pairs 82 = .ok (.iinc 3 1, 3) := by decide +kernel
theorem dX12_pairs_85 : decode cX12_pairs 85 = .ok (.iinc 5 1, 3) := by decide +kernel
theorem dX12_pairs_88 : decode cX12_pairs 88 = .ok (.goto (-45), 3) := by decide +kernel
theorem dX12_pairs_91 : decode cX12_pairs 91 = .ok (.iinc 4 1, 3) := by decide +kernel
theorem dX12_pairs_94 : decode cX12_pairs 94 = .ok (.goto (-64), 3) := by decide +kernel
theorem dX12_pairs_97 : decode cX12_pairs 97 = .ok (.iload_n 2, 1) := by decide +kernel
theorem dX12_pairs_98 : decode cX12_pairs 98 = .ok (.iconst (-1), 1) := by decide +kernel
theorem dX12_pairs_99 : decode cX12_pairs 99 = .ok (.if_icmp .ne 7, 3) := by decide +kernel
theorem dX12_pairs_102 : decode cX12_pairs 102 = .ok (.iload_n 3, 1) := by decide +kernel
theorem dX12_pairs_103 : decode cX12_pairs 103 = .ok (.goto 4, 3) := by decide +kernel
theorem dX12_pairs_106 : decode cX12_pairs 106 = .ok (.iconst (-1), 1) := by decide +kernel
theorem dX12_pairs_107 : decode cX12_pairs 107 = .ok (.ireturn, 1) := by decide +kernel
theorem dX12_laysFewest_0 : decode cX12_laysFewest 0 = .ok (.iconst 0, 1) := by decide +kernel
theorem dX12_laysFewest_1 : decode cX12_laysFewest 1 = .ok (.istore_n 1, 1) := by decide +kernel
theorem dX12_laysFewest_2 : decode cX12_laysFewest 2 = .ok (.iload_n 1, 1) := by decide +kernel
theorem dX12_laysFewest_3 : decode cX12_laysFewest 3 = .ok (.sipush 256, 3) := by decide +kernel
theorem dX12_laysFewest_6 : decode cX12_laysFewest 6 = .ok (.if_icmp .ge 29, 3) := by decide +kernel
theorem dX12_laysFewest_9 : decode cX12_laysFewest 9 = .ok (.aload_n 0, 1) := by decide +kernel
theorem dX12_laysFewest_10 : decode cX12_laysFewest 10 = .ok (.getfield 29, 3) := by decide +kernel
theorem dX12_laysFewest_13 : decode cX12_laysFewest 13 = .ok (.sipush 10240, 3) := by decide +kernel
theorem dX12_laysFewest_16 : decode cX12_laysFewest 16 = .ok (.iload_n 1, 1) := by decide +kernel
theorem dX12_laysFewest_17 : decode cX12_laysFewest 17 = .ok (.iadd, 1) := by decide +kernel
theorem dX12_laysFewest_18 : decode cX12_laysFewest 18 = .ok (.iload_n 1, 1) := by decide +kernel
theorem dX12_laysFewest_19 : decode cX12_laysFewest 19 = .ok (.ifCond .ne 7, 3) := by decide +kernel
theorem dX12_laysFewest_22 : decode cX12_laysFewest 22 = .ok (.iconst 0, 1) := by decide +kernel
theorem dX12_laysFewest_23 : decode cX12_laysFewest 23 = .ok (.goto 5, 3) := by decide +kernel
theorem dX12_laysFewest_26 : decode cX12_laysFewest 26 = .ok (.bipush 64, 2) := by decide +kernel
theorem dX12_laysFewest_28 : decode cX12_laysFewest 28 = .ok (.iastore, 1) := by decide +kernel
theorem dX12_laysFewest_29 : decode cX12_laysFewest 29 = .ok (.iinc 1 1, 3) := by decide +kernel
theorem dX12_laysFewest_32 : decode cX12_laysFewest 32 = .ok (.goto (-30), 3) := by decide +kernel
theorem dX12_laysFewest_35 : decode cX12_laysFewest 35 = .ok (.bipush 39, 2) := by decide +kernel
theorem dX12_laysFewest_37 : decode cX12_laysFewest 37 = .ok (.istore_n 1, 1) := by decide +kernel
theorem dX12_laysFewest_38 : decode cX12_laysFewest 38 = .ok (.iload_n 1, 1) := by decide +kernel
theorem dX12_laysFewest_39 : decode cX12_laysFewest 39 = .ok (.ifCond .lt 86, 3) := by decide +kernel
theorem dX12_laysFewest_42 : decode cX12_laysFewest 42 = .ok (.iconst 0, 1) := by decide +kernel
theorem dX12_laysFewest_43 : decode cX12_laysFewest 43 = .ok (.istore_n 2, 1) := by decide +kernel
theorem dX12_laysFewest_44 : decode cX12_laysFewest 44 = .ok (.iload_n 2, 1) := by decide +kernel
theorem dX12_laysFewest_45 : decode cX12_laysFewest 45 = .ok (.sipush 256, 3) := by decide +kernel
theorem dX12_laysFewest_48 : decode cX12_laysFewest 48 = .ok (.if_icmp .ge 71, 3) := by decide +kernel
theorem dX12_laysFewest_51 : decode cX12_laysFewest 51 = .ok (.iconst 1, 1) := by decide +kernel
theorem dX12_laysFewest_52 : decode cX12_laysFewest 52 = .ok (.aload_n 0, 1) := by decide +kernel
theorem dX12_laysFewest_53 : decode cX12_laysFewest 53 = .ok (.getfield 29, 3) := by decide +kernel
theorem dX12_laysFewest_56 : decode cX12_laysFewest 56 = .ok (.sipush 256, 3) := by decide +kernel
theorem dX12_laysFewest_59 : decode cX12_laysFewest 59 = .ok (.iload_n 1, 1) := by decide +kernel
theorem dX12_laysFewest_60 : decode cX12_laysFewest 60 = .ok (.iconst 1, 1) := by decide +kernel
theorem dX12_laysFewest_61 : decode cX12_laysFewest 61 = .ok (.iadd, 1) := by decide +kernel
theorem dX12_laysFewest_62 : decode cX12_laysFewest 62 = .ok (.imul, 1) := by decide +kernel
theorem dX12_laysFewest_63 : decode cX12_laysFewest 63 = .ok (.iload_n 2, 1) := by decide +kernel
theorem dX12_laysFewest_64 : decode cX12_laysFewest 64 = .ok (.iload_n 1, 1) := by decide +kernel
theorem dX12_laysFewest_65 : decode cX12_laysFewest 65 = .ok (.invokestatic 85, 3) := by decide +kernel
theorem dX12_laysFewest_68 : decode cX12_laysFewest 68 = .ok (.ixor, 1) := by decide +kernel
theorem dX12_laysFewest_69 : decode cX12_laysFewest 69 = .ok (.iadd, 1) := by decide +kernel
theorem dX12_laysFewest_70 : decode cX12_laysFewest 70 = .ok (.iaload, 1) := by decide +kernel
theorem dX12_laysFewest_71 : decode cX12_laysFewest 71 = .ok (.iadd, 1) := by decide +kernel
theorem dX12_laysFewest_72 : decode cX12_laysFewest 72 = .ok (.istore_n 3, 1) := by decide +kernel
theorem dX12_laysFewest_73 : decode cX12_laysFewest 73 = .ok (.aload_n 0, 1) := by decide +kernel
theorem dX12_laysFewest_74 : decode cX12_laysFewest 74 = .ok (.getfield 29, 3) := by decide +kernel
theorem dX12_laysFewest_77 : decode cX12_laysFewest 77 = .ok (.sipush 256, 3) := by decide +kernel
theorem dX12_laysFewest_80 : decode cX12_laysFewest 80 = .ok (.iload_n 1, 1) := by decide +kernel
theorem dX12_laysFewest_81 : decode cX12_laysFewest 81 = .ok (.iconst 1, 1) := by decide +kernel
theorem dX12_laysFewest_82 : decode cX12_laysFewest 82 = .ok (.iadd, 1) := by decide +kernel
theorem dX12_laysFewest_83 : decode cX12_laysFewest 83 = .ok (.imul, 1) := by decide +kernel
theorem dX12_laysFewest_84 : decode cX12_laysFewest 84 = .ok (.iload_n 2, 1) := by decide +kernel
theorem dX12_laysFewest_85 : decode cX12_laysFewest 85 = .ok (.iadd, 1) := by decide +kernel
theorem dX12_laysFewest_86 : decode cX12_laysFewest 86 = .ok (.iaload, 1) := by decide +kernel
theorem dX12_laysFewest_87 : decode cX12_laysFewest 87 = .ok (.istore 4, 2) := by decide +kernel
theorem dX12_laysFewest_89 : decode cX12_laysFewest 89 = .ok (.aload_n 0, 1) := by decide +kernel
theorem dX12_laysFewest_90 : decode cX12_laysFewest 90 = .ok (.getfield 29, 3) := by decide +kernel
theorem dX12_laysFewest_93 : decode cX12_laysFewest 93 = .ok (.sipush 256, 3) := by decide +kernel
theorem dX12_laysFewest_96 : decode cX12_laysFewest 96 = .ok (.iload_n 1, 1) := by decide +kernel
theorem dX12_laysFewest_97 : decode cX12_laysFewest 97 = .ok (.imul, 1) := by decide +kernel
theorem dX12_laysFewest_98 : decode cX12_laysFewest 98 = .ok (.iload_n 2, 1) := by decide +kernel
theorem dX12_laysFewest_99 : decode cX12_laysFewest 99 = .ok (.iadd, 1) := by decide +kernel
theorem dX12_laysFewest_100 : decode cX12_laysFewest 100 = .ok (.iload_n 3, 1) := by decide +kernel
theorem dX12_laysFewest_101 : decode cX12_laysFewest 101 = .ok (.iload 4, 2) := by decide +kernel
theorem dX12_laysFewest_103 : decode cX12_laysFewest 103 = .ok (.if_icmp .ge 7, 3) := by decide +kernel
theorem dX12_laysFewest_106 : decode cX12_laysFewest 106 = .ok (.iload_n 3, 1) := by decide +kernel
theorem dX12_laysFewest_107 : decode cX12_laysFewest 107 = .ok (.goto 5, 3) := by decide +kernel
theorem dX12_laysFewest_110 : decode cX12_laysFewest 110 = .ok (.iload 4, 2) := by decide +kernel
theorem dX12_laysFewest_112 : decode cX12_laysFewest 112 = .ok (.iastore, 1) := by decide +kernel
theorem dX12_laysFewest_113 : decode cX12_laysFewest 113 = .ok (.iinc 2 1, 3) := by decide +kernel
theorem dX12_laysFewest_116 : decode cX12_laysFewest 116 = .ok (.goto (-72), 3) := by decide +kernel
theorem dX12_laysFewest_119 : decode cX12_laysFewest 119 = .ok (.iinc 1 (-1), 3) := by decide +kernel
theorem dX12_laysFewest_122 : decode cX12_laysFewest 122 = .ok (.goto (-84), 3) := by decide +kernel
theorem dX12_laysFewest_125 : decode cX12_laysFewest 125 = .ok (.return_, 1) := by decide +kernel
theorem dX12_nearest_0 : decode cX12_nearest 0 = .ok (.aload_n 0, 1) := by decide +kernel
theorem dX12_nearest_1 : decode cX12_nearest 1 = .ok (.iconst 0, 1) := by decide +kernel
theorem dX12_nearest_2 : decode cX12_nearest 2 = .ok (.putfield 1, 3) := by decide +kernel
theorem dX12_nearest_5 : decode cX12_nearest 5 = .ok (.iload_n 1, 1) := by decide +kernel
theorem dX12_nearest_6 : decode cX12_nearest 6 = .ok (.i2l, 1) := by decide +kernel
theorem dX12_nearest_7 : decode cX12_nearest 7 = .ok (.lconst 0, 1) := by decide +kernel
theorem dX12_nearest_8 : decode cX12_nearest 8 = .ok (.ldc2_w 91, 3) := by decide +kernel
theorem dX12_nearest_11 : decode cX12_nearest 11 = .ok (.invokestatic 77, 3) := by decide +kernel
theorem dX12_nearest_14 : decode cX12_nearest 14 = .ok (.ifCond .eq 8, 3) := by decide +kernel
theorem dX12_nearest_17 : decode cX12_nearest 17 = .ok (.iload_n 2, 1) := by decide +kernel
theorem dX12_nearest_18 : decode cX12_nearest 18 = .ok (.iconst (-1), 1) := by decide +kernel
theorem dX12_nearest_19 : decode cX12_nearest 19 = .ok (.if_icmp .ge 6, 3) := by decide +kernel
theorem dX12_nearest_22 : decode cX12_nearest 22 = .ok (.bipush (-3), 2) := by decide +kernel
theorem dX12_nearest_24 : decode cX12_nearest 24 = .ok (.ireturn, 1) := by decide +kernel
theorem dX12_nearest_25 : decode cX12_nearest 25 = .ok (.aload_n 0, 1) := by decide +kernel
theorem dX12_nearest_26 : decode cX12_nearest 26 = .ok (.invokevirtual 96, 3) := by decide +kernel
theorem dX12_nearest_29 : decode cX12_nearest 29 = .ok (.iload_n 2, 1) := by decide +kernel
theorem dX12_nearest_30 : decode cX12_nearest 30 = .ok (.iconst (-1), 1) := by decide +kernel
theorem dX12_nearest_31 : decode cX12_nearest 31 = .ok (.if_icmp .ne 10, 3) := by decide +kernel
theorem dX12_nearest_34 : decode cX12_nearest 34 = .ok (.aload_n 0, 1) := by decide +kernel
theorem dX12_nearest_35 : decode cX12_nearest 35 = .ok (.getfield 29, 3) := by decide +kernel
theorem dX12_nearest_38 : decode cX12_nearest 38 = .ok (.iload_n 1, 1) := by decide +kernel
theorem dX12_nearest_39 : decode cX12_nearest 39 = .ok (.iaload, 1) := by decide +kernel
theorem dX12_nearest_40 : decode cX12_nearest 40 = .ok (.ireturn, 1) := by decide +kernel
theorem dX12_nearest_41 : decode cX12_nearest 41 = .ok (.iload_n 1, 1) := by decide +kernel
theorem dX12_nearest_42 : decode cX12_nearest 42 = .ok (.istore_n 3, 1) := by decide +kernel
theorem dX12_nearest_43 : decode cX12_nearest 43 = .ok (.iconst 0, 1) := by decide +kernel
theorem dX12_nearest_44 : decode cX12_nearest 44 = .ok (.istore 4, 2) := by decide +kernel
theorem dX12_nearest_46 : decode cX12_nearest 46 = .ok (.iconst 0, 1) := by decide +kernel
theorem dX12_nearest_47 : decode cX12_nearest 47 = .ok (.istore 5, 2) := by decide +kernel
theorem dX12_nearest_49 : decode cX12_nearest 49 = .ok (.iload 5, 2) := by decide +kernel
theorem dX12_nearest_51 : decode cX12_nearest 51 = .ok (.bipush 40, 2) := by decide +kernel
theorem dX12_nearest_53 : decode cX12_nearest 53 = .ok (.if_icmp .ge 74, 3) := by decide +kernel
theorem dX12_nearest_56 : decode cX12_nearest 56 = .ok (.iload_n 3, 1) := by decide +kernel
theorem dX12_nearest_57 : decode cX12_nearest 57 = .ok (.ifCond .eq 70, 3) := by decide +kernel
theorem dX12_nearest_60 : decode cX12_nearest 60 = .ok (.iload_n 3, 1) := by decide +kernel
theorem dX12_nearest_61 : decode cX12_nearest 61 = .ok (.iload 5, 2) := by decide +kernel
theorem dX12_nearest_63 : decode cX12_nearest 63 = .ok (.invokestatic 85, 3) := by decide +kernel
theorem dX12_nearest_66 : decode cX12_nearest 66 = .ok (.ixor, 1) := by decide +kernel
theorem dX12_nearest_67 : decode cX12_nearest 67 = .ok (.istore 6, 2) := by decide +kernel
theorem dX12_nearest_69 : decode cX12_nearest 69 = .ok (.iconst 1, 1) := by decide +kernel
theorem dX12_nearest_70 : decode cX12_nearest 70 = .ok (.aload_n 0, 1) := by decide +kernel
theorem dX12_nearest_71 : decode cX12_nearest 71 = .ok (.getfield 29, 3) := by decide +kernel
theorem dX12_nearest_74 : decode cX12_nearest 74 = .ok (.sipush 256, 3) := by decide +kernel
theorem dX12_nearest_77 : decode cX12_nearest 77 = .ok (.iload 5, 2) := by decide +kernel
theorem dX12_nearest_79 : decode cX12_nearest 79 = .ok (.iconst 1, 1) := by decide +kernel
theorem dX12_nearest_80 : decode cX12_nearest 80 = .ok (.iadd, 1) := by decide +kernel
theorem dX12_nearest_81 : decode cX12_nearest 81 = .ok (.imul, 1) := by decide +kernel
theorem dX12_nearest_82 : decode cX12_nearest 82 = .ok (.iload 6, 2) := by decide +kernel
theorem dX12_nearest_84 : decode cX12_nearest 84 = .ok (.iadd, 1) := by decide +kernel
theorem dX12_nearest_85 : decode cX12_nearest 85 = .ok (.iaload, 1) := by decide +kernel
theorem dX12_nearest_86 : decode cX12_nearest 86 = .ok (.iadd, 1) := by decide +kernel
theorem dX12_nearest_87 : decode cX12_nearest 87 = .ok (.aload_n 0, 1) := by decide +kernel
theorem dX12_nearest_88 : decode cX12_nearest 88 = .ok (.getfield 29, 3) := by decide +kernel
theorem dX12_nearest_91 : decode cX12_nearest 91 = .ok (.sipush 256, 3) := by decide +kernel
theorem dX12_nearest_94 : decode cX12_nearest 94 = .ok (.iload 5, 2) := by decide +kernel
theorem dX12_nearest_96 : decode cX12_nearest 96 = .ok (.imul, 1) := by decide +kernel
theorem dX12_nearest_97 : decode cX12_nearest 97 = .ok (.iload_n 3, 1) := by decide +kernel
theorem dX12_nearest_98 : decode cX12_nearest 98 = .ok (.iadd, 1) := by decide +kernel
theorem dX12_nearest_99 : decode cX12_nearest 99 = .ok (.iaload, 1) := by decide +kernel
theorem dX12_nearest_100 : decode cX12_nearest 100 = .ok (.if_icmp .eq 6, 3) := by decide +kernel
theorem dX12_nearest_103 : decode cX12_nearest 103 = .ok (.goto 18, 3) := by decide +kernel
theorem dX12_nearest_106 : decode cX12_nearest 106 = .ok (.iload 4, 2) := by decide +kernel
theorem dX12_nearest_108 : decode cX12_nearest 108 = .ok (.iload_n 2, 1) := by decide +kernel
theorem dX12_nearest_109 : decode cX12_nearest 109 = .ok (.if_icmp .ne 6, 3) := by decide +kernel
theorem dX12_nearest_112 : decode cX12_nearest 112 = .ok (.iload 5, 2) := by decide +kernel
theorem dX12_nearest_114 : decode cX12_nearest 114 = .ok (.ireturn, 1) := by decide +kernel
theorem dX12_nearest_115 : decode cX12_nearest 115 = .ok (.iinc 4 1, 3) := by decide +kernel
theorem dX12_nearest_118 : decode cX12_nearest 118 = .ok (.iload 6, 2) := by decide +kernel
theorem dX12_nearest_120 : decode cX12_nearest 120 = .ok (.istore_n 3, 1) := by decide +kernel
theorem dX12_nearest_121 : decode cX12_nearest 121 = .ok (.iinc 5 1, 3) := by decide +kernel
theorem dX12_nearest_124 : decode cX12_nearest 124 = .ok (.goto (-75), 3) := by decide +kernel
theorem dX12_nearest_127 : decode cX12_nearest 127 = .ok (.iconst (-1), 1) := by decide +kernel
theorem dX12_nearest_128 : decode cX12_nearest 128 = .ok (.ireturn, 1) := by decide +kernel
theorem dX12_mending_0 : decode cX12_mending 0 = .ok (.aload_n 0, 1) := by decide +kernel
theorem dX12_mending_1 : decode cX12_mending 1 = .ok (.iconst 0, 1) := by decide +kernel
theorem dX12_mending_2 : decode cX12_mending 2 = .ok (.putfield 1, 3) := by decide +kernel
theorem dX12_mending_5 : decode cX12_mending 5 = .ok (.iload_n 3, 1) := by decide +kernel
theorem dX12_mending_6 : decode cX12_mending 6 = .ok (.i2l, 1) := by decide +kernel
theorem dX12_mending_7 : decode cX12_mending 7 = .ok (.lconst 0, 1) := by decide +kernel
theorem dX12_mending_8 : decode cX12_mending 8 = .ok (.ldc2_w 99, 3) := by decide +kernel
theorem dX12_mending_11 : decode cX12_mending 11 = .ok (.invokestatic 77, 3) := by decide +kernel
theorem dX12_mending_14 : decode cX12_mending 14 = .ok (.ifCond .ne 6, 3) := by decide +kernel
theorem dX12_mending_17 : decode cX12_mending 17 = .ok (.bipush (-2), 2) := by decide +kernel
theorem dX12_mending_19 : decode cX12_mending 19 = .ok (.ireturn, 1) := by decide +kernel
theorem dX12_mending_20 : decode cX12_mending 20 = .ok (.iload_n 2, 1) := by decide +kernel
theorem dX12_mending_21 : decode cX12_mending 21 = .ok (.i2l, 1) := by decide +kernel
theorem dX12_mending_22 : decode cX12_mending 22 = .ok (.lconst 0, 1) := by decide +kernel
theorem dX12_mending_23 : decode cX12_mending 23 = .ok (.ldc2_w 91, 3) := by decide +kernel
theorem dX12_mending_26 : decode cX12_mending 26 = .ok (.invokestatic 77, 3) := by decide +kernel
theorem dX12_mending_29 : decode cX12_mending 29 = .ok (.ifCond .ne 6, 3) := by decide +kernel
theorem dX12_mending_32 : decode cX12_mending 32 = .ok (.bipush (-3), 2) := by decide +kernel
theorem dX12_mending_34 : decode cX12_mending 34 = .ok (.ireturn, 1) := by decide +kernel
theorem dX12_mending_35 : decode cX12_mending 35 = .ok (.iload_n 1, 1) := by decide +kernel
theorem dX12_mending_36 : decode cX12_mending 36 = .ok (.invokestatic 88, 3) := by decide +kernel
theorem dX12_mending_39 : decode cX12_mending 39 = .ok (.iload_n 2, 1) := by decide +kernel
theorem dX12_mending_40 : decode cX12_mending 40 = .ok (.ixor, 1) := by decide +kernel
theorem dX12_mending_41 : decode cX12_mending 41 = .ok (.istore 4, 2) := by decide +kernel
theorem dX12_mending_43 : decode cX12_mending 43 = .ok (.iload 4, 2) := by decide +kernel
theorem dX12_mending_45 : decode cX12_mending 45 = .ok (.invokestatic 93, 3) := by decide +kernel
theorem dX12_mending_48 : decode cX12_mending 48 = .ok (.istore 5, 2) := by decide +kernel
theorem dX12_mending_50 : decode cX12_mending 50 = .ok (.iload_n 3, 1) := by decide +kernel
theorem dX12_mending_51 : decode cX12_mending 51 = .ok (.ifCond .ne 24, 3) := by decide +kernel
theorem dX12_mending_54 : decode cX12_mending 54 = .ok (.iload 4, 2) := by decide +kernel
theorem dX12_mending_56 : decode cX12_mending 56 = .ok (.ifCond .ne 7, 3) := by decide +kernel
theorem dX12_mending_59 : decode cX12_mending 59 = .ok (.iconst 0, 1) := by decide +kernel
theorem dX12_mending_60 : decode cX12_mending 60 = .ok (.goto 14, 3) := by decide +kernel
theorem dX12_mending_63 : decode cX12_mending 63 = .ok (.iload 5, 2) := by decide +kernel
theorem dX12_mending_65 : decode cX12_mending 65 = .ok (.iconst (-1), 1) := by decide +kernel
theorem dX12_mending_66 : decode cX12_mending 66 = .ok (.if_icmp .ne 7, 3) := by decide +kernel
theorem dX12_mending_69 : decode cX12_mending 69 = .ok (.iconst 2, 1) := by decide +kernel
theorem dX12_mending_70 : decode cX12_mending 70 = .ok (.goto 4, 3) := by decide +kernel
theorem dX12_mending_73 : decode cX12_mending 73 = .ok (.iconst 1, 1) := by decide +kernel
theorem dX12_mending_74 : decode cX12_mending 74 = .ok (.ireturn, 1) := by decide +kernel
theorem dX12_mending_75 : decode cX12_mending 75 = .ok (.iload_n 3, 1) := by decide +kernel
theorem dX12_mending_76 : decode cX12_mending 76 = .ok (.iconst 1, 1) := by decide +kernel
theorem dX12_mending_77 : decode cX12_mending 77 = .ok (.if_icmp .ne 30, 3) := by decide +kernel
theorem dX12_mending_80 : decode cX12_mending 80 = .ok (.iload 5, 2) := by decide +kernel
theorem dX12_mending_82 : decode cX12_mending 82 = .ok (.i2l, 1) := by decide +kernel
theorem dX12_mending_83 : decode cX12_mending 83 = .ok (.lconst 0, 1) := by decide +kernel
theorem dX12_mending_84 : decode cX12_mending 84 = .ok (.ldc2_w 101, 3) := by decide +kernel
theorem dX12_mending_87 : decode cX12_mending 87 = .ok (.invokestatic 77, 3) := by decide +kernel
theorem dX12_mending_90 : decode cX12_mending 90 = .ok (.ifCond .eq 15, 3) := by decide +kernel
theorem dX12_mending_93 : decode cX12_mending 93 = .ok (.iload_n 1, 1) := by decide +kernel
theorem dX12_mending_94 : decode cX12_mending 94 = .ok (.iconst 1, 1) := by decide +kernel
theorem dX12_mending_95 : decode cX12_mending 95 = .ok (.bipush 31, 2) := by decide +kernel
theorem dX12_mending_97 : decode cX12_mending 97 = .ok (.iload 5, 2) := by decide +kernel
theorem dX12_mending_99 : decode cX12_mending 99 = .ok (.isub, 1) := by decide +kernel
theorem dX12_mending_100 : decode cX12_mending 100 = .ok (.ishl, 1) := by decide +kernel
theorem dX12_mending_101 : decode cX12_mending 101 = .ok (.ixor, 1) := by decide +kernel
theorem dX12_mending_102 : decode cX12_mending 102 = .ok (.goto 4, 3) := by decide +kernel
theorem dX12_mending_105 : decode cX12_mending 105 = .ok (.iload_n 1, 1) := by decide +kernel
theorem dX12_mending_106 : decode cX12_mending 106 = .ok (.ireturn, 1) := by decide +kernel
theorem dX12_mending_107 : decode cX12_mending 107 = .ok (.iload 5, 2) := by decide +kernel
theorem dX12_mending_109 : decode cX12_mending 109 = .ok (.bipush 32, 2) := by decide +kernel
theorem dX12_mending_111 : decode cX12_mending 111 = .ok (.if_icmp .lt 15, 3) := by decide +kernel
theorem dX12_mending_114 : decode cX12_mending 114 = .ok (.iload_n 2, 1) := by decide +kernel
theorem dX12_mending_115 : decode cX12_mending 115 = .ok (.iconst 1, 1) := by decide +kernel
theorem dX12_mending_116 : decode cX12_mending 116 = .ok (.bipush 39, 2) := by decide +kernel
theorem dX12_mending_118 : decode cX12_mending 118 = .ok (.iload 5, 2) := by decide +kernel
theorem dX12_mending_120 : decode cX12_mending 120 = .ok (.isub, 1) := by decide +kernel
theorem dX12_mending_121 : decode cX12_mending 121 = .ok (.ishl, 1) := by decide +kernel
theorem dX12_mending_122 : decode cX12_mending 122 = .ok (.ixor, 1) := by decide +kernel
theorem dX12_mending_123 : decode cX12_mending 123 = .ok (.goto 4, 3) := by decide +kernel
theorem dX12_mending_126 : decode cX12_mending 126 = .ok (.iload_n 2, 1) := by decide +kernel
theorem dX12_mending_127 : decode cX12_mending 127 = .ok (.ireturn, 1) := by decide +kernel
theorem dX12_cellLong_0 : decode cX12_cellLong 0 = .ok (.bipush 40, 2) := by decide +kernel
theorem dX12_cellLong_2 : decode cX12_cellLong 2 = .ok (.bipush 8, 2) := by decide +kernel
theorem dX12_cellLong_4 : decode cX12_cellLong 4 = .ok (.aload_n 0, 1) := by decide +kernel
theorem dX12_cellLong_5 : decode cX12_cellLong 5 = .ok (.getfield 13, 3) := by decide +kernel
theorem dX12_cellLong_8 : decode cX12_cellLong 8 = .ok (.iconst 0, 1) := by decide +kernel
theorem dX12_cellLong_9 : decode cX12_cellLong 9 = .ok (.iaload, 1) := by decide +kernel
theorem dX12_cellLong_10 : decode cX12_cellLong 10 = .ok (.imul, 1) := by decide +kernel
theorem dX12_cellLong_11 : decode cX12_cellLong 11 = .ok (.iadd, 1) := by decide +kernel
theorem dX12_cellLong_12 : decode cX12_cellLong 12 = .ok (.ireturn, 1) := by decide +kernel
theorem dX12_scrambles_0 : decode cX12_scrambles 0 = .ok (.iload_n 1, 1) := by decide +kernel
theorem dX12_scrambles_1 : decode cX12_scrambles 1 = .ok (.aload_n 0, 1) := by decide +kernel
theorem dX12_scrambles_2 : decode cX12_scrambles 2 = .ok (.getfield 103, 3) := by decide +kernel
theorem dX12_scrambles_5 : decode cX12_scrambles 5 = .ok (.bipush 10, 2) := by decide +kernel
theorem dX12_scrambles_7 : decode cX12_scrambles 7 = .ok (.ishr, 1) := by decide +kernel
theorem dX12_scrambles_8 : decode cX12_scrambles 8 = .ok (.iconst 1, 1) := by decide +kernel
theorem dX12_scrambles_9 : decode cX12_scrambles 9 = .ok (.iand, 1) := by decide +kernel
theorem dX12_scrambles_10 : decode cX12_scrambles 10 = .ok (.ixor, 1) := by decide +kernel
theorem dX12_scrambles_11 : decode cX12_scrambles 11 = .ok (.istore_n 2, 1) := by decide +kernel
theorem dX12_scrambles_12 : decode cX12_scrambles 12 = .ok (.aload_n 0, 1) := by decide +kernel
theorem dX12_scrambles_13 : decode cX12_scrambles 13 = .ok (.aload_n 0, 1) := by decide +kernel
theorem dX12_scrambles_14 : decode cX12_scrambles 14 = .ok (.getfield 103, 3) := by decide +kernel
theorem dX12_scrambles_17 : decode cX12_scrambles 17 = .ok (.iconst 1, 1) := by decide +kernel
theorem dX12_scrambles_18 : decode cX12_scrambles 18 = .ok (.ishl, 1) := by decide +kernel
theorem dX12_scrambles_19 : decode cX12_scrambles 19 = .ok (.aload_n 0, 1) := by decide +kernel
theorem dX12_scrambles_20 : decode cX12_scrambles 20 = .ok (.getfield 106, 3) := by decide +kernel
theorem dX12_scrambles_23 : decode cX12_scrambles 23 = .ok (.bipush 31, 2) := by decide +kernel
theorem dX12_scrambles_25 : decode cX12_scrambles 25 = .ok (.iushr, 1) := by decide +kernel
theorem dX12_scrambles_26 : decode cX12_scrambles 26 = .ok (.ior, 1) := by decide +kernel
theorem dX12_scrambles_27 : decode cX12_scrambles 27 = .ok (.sipush 2047, 3) := by decide +kernel
theorem dX12_scrambles_30 : decode cX12_scrambles 30 = .ok (.iand, 1) := by decide +kernel
theorem dX12_scrambles_31 : decode cX12_scrambles 31 = .ok (.putfield 103, 3) := by decide +kernel
theorem dX12_scrambles_34 : decode cX12_scrambles 34 = .ok (.aload_n 0, 1) := by decide +kernel
theorem dX12_scrambles_35 : decode cX12_scrambles 35 = .ok (.aload_n 0, 1) := by decide +kernel
theorem dX12_scrambles_36 : decode cX12_scrambles 36 = .ok (.getfield 106, 3) := by decide +kernel
theorem dX12_scrambles_39 : decode cX12_scrambles 39 = .ok (.iconst 1, 1) := by decide +kernel
theorem dX12_scrambles_40 : decode cX12_scrambles 40 = .ok (.ishl, 1) := by decide +kernel
theorem dX12_scrambles_41 : decode cX12_scrambles 41 = .ok (.iload_n 2, 1) := by decide +kernel
theorem dX12_scrambles_42 : decode cX12_scrambles 42 = .ok (.ior, 1) := by decide +kernel
theorem dX12_scrambles_43 : decode cX12_scrambles 43 = .ok (.putfield 106, 3) := by decide +kernel
theorem dX12_scrambles_46 : decode cX12_scrambles 46 = .ok (.aload_n 0, 1) := by decide +kernel
theorem dX12_scrambles_47 : decode cX12_scrambles 47 = .ok (.iload_n 2, 1) := by decide +kernel
theorem dX12_scrambles_48 : decode cX12_scrambles 48 = .ok (.invokevirtual 67, 3) := by decide +kernel
theorem dX12_scrambles_51 : decode cX12_scrambles 51 = .ok (.return_, 1) := by decide +kernel
theorem dX12_sends_0 : decode cX12_sends 0 = .ok (.bipush 50, 2) := by decide +kernel
theorem dX12_sends_2 : decode cX12_sends 2 = .ok (.aload_n 0, 1) := by decide +kernel
theorem dX12_sends_3 : decode cX12_sends 3 = .ok (.getfield 109, 3) := by decide +kernel
theorem dX12_sends_6 : decode cX12_sends 6 = .ok (.imul, 1) := by decide +kernel
theorem dX12_sends_7 : decode cX12_sends 7 = .ok (.istore_n 2, 1) := by decide +kernel
theorem dX12_sends_8 : decode cX12_sends 8 = .ok (.aload_n 0, 1) := by decide +kernel
theorem dX12_sends_9 : decode cX12_sends 9 = .ok (.getfield 26, 3) := by decide +kernel
theorem dX12_sends_12 : decode cX12_sends 12 = .ok (.iload_n 2, 1) := by decide +kernel
theorem dX12_sends_13 : decode cX12_sends 13 = .ok (.iload_n 1, 1) := by decide +kernel
theorem dX12_sends_14 : decode cX12_sends 14 = .ok (.iastore, 1) := by decide +kernel
theorem dX12_sends_15 : decode cX12_sends 15 = .ok (.aload_n 0, 1) := by decide +kernel
theorem dX12_sends_16 : decode cX12_sends 16 = .ok (.getfield 26, 3) := by decide +kernel
theorem dX12_sends_19 : decode cX12_sends 19 = .ok (.iload_n 2, 1) := by decide +kernel
theorem dX12_sends_20 : decode cX12_sends 20 = .ok (.iconst 1, 1) := by decide +kernel
theorem dX12_sends_21 : decode cX12_sends 21 = .ok (.iadd, 1) := by decide +kernel
theorem dX12_sends_22 : decode cX12_sends 22 = .ok (.aload_n 0, 1) := by decide +kernel
theorem dX12_sends_23 : decode cX12_sends 23 = .ok (.getfield 13, 3) := by decide +kernel
theorem dX12_sends_26 : decode cX12_sends 26 = .ok (.iconst 0, 1) := by decide +kernel
theorem dX12_sends_27 : decode cX12_sends 27 = .ok (.iaload, 1) := by decide +kernel
theorem dX12_sends_28 : decode cX12_sends 28 = .ok (.iastore, 1) := by decide +kernel
theorem dX12_sends_29 : decode cX12_sends 29 = .ok (.aload_n 0, 1) := by decide +kernel
theorem dX12_sends_30 : decode cX12_sends 30 = .ok (.bipush 32, 2) := by decide +kernel
theorem dX12_sends_32 : decode cX12_sends 32 = .ok (.iload_n 1, 1) := by decide +kernel
theorem dX12_sends_33 : decode cX12_sends 33 = .ok (.invokevirtual 71, 3) := by decide +kernel
theorem dX12_sends_36 : decode cX12_sends 36 = .ok (.aload_n 0, 1) := by decide +kernel
theorem dX12_sends_37 : decode cX12_sends 37 = .ok (.bipush 8, 2) := by decide +kernel
theorem dX12_sends_39 : decode cX12_sends 39 = .ok (.iload_n 1, 1) := by decide +kernel
theorem dX12_sends_40 : decode cX12_sends 40 = .ok (.invokestatic 88, 3) := by decide +kernel
theorem dX12_sends_43 : decode cX12_sends 43 = .ok (.invokevirtual 71, 3) := by decide +kernel
theorem dX12_sends_46 : decode cX12_sends 46 = .ok (.iconst 0, 1) := by decide +kernel
theorem dX12_sends_47 : decode cX12_sends 47 = .ok (.istore_n 3, 1) := by decide +kernel
theorem dX12_sends_48 : decode cX12_sends 48 = .ok (.iload_n 3, 1) := by decide +kernel
theorem dX12_sends_49 : decode cX12_sends 49 = .ok (.aload_n 0, 1) := by decide +kernel
theorem dX12_sends_50 : decode cX12_sends 50 = .ok (.getfield 13, 3) := by decide +kernel
theorem dX12_sends_53 : decode cX12_sends 53 = .ok (.iconst 0, 1) := by decide +kernel
theorem dX12_sends_54 : decode cX12_sends 54 = .ok (.iaload, 1) := by decide +kernel
theorem dX12_sends_55 : decode cX12_sends 55 = .ok (.if_icmp .ge 43, 3) := by decide +kernel
theorem dX12_sends_58 : decode cX12_sends 58 = .ok (.bipush 7, 2) := by decide +kernel
theorem dX12_sends_60 : decode cX12_sends 60 = .ok (.istore 4, 2) := by decide +kernel
theorem dX12_sends_62 : decode cX12_sends 62 = .ok (.iload 4, 2) := by decide +kernel
theorem dX12_sends_64 : decode cX12_sends 64 = .ok (.ifCond .lt 28, 3) := by decide +kernel
theorem dX12_sends_67 : decode cX12_sends 67 = .ok (.aload_n 0, 1) := by decide +kernel
theorem dX12_sends_68 : decode cX12_sends 68 = .ok (.aload_n 0, 1) := by decide +kernel
theorem dX12_sends_69 : decode cX12_sends 69 = .ok (.getfield 26, 3) := by decide +kernel
theorem dX12_sends_72 : decode cX12_sends 72 = .ok (.iload_n 2, 1) := by decide +kernel
theorem dX12_sends_73 : decode cX12_sends 73 = .ok (.iconst 2, 1) := by decide +kernel
theorem dX12_sends_74 : decode cX12_sends 74 = .ok (.iadd, 1) := by decide +kernel
theorem dX12_sends_75 : decode cX12_sends 75 = .ok (.iload_n 3, 1) := by decide +kernel
theorem dX12_sends_76 : decode cX12_sends 76 = .ok (.iadd, 1) := by decide +kernel
theorem dX12_sends_77 : decode cX12_sends 77 = .ok (.iaload, 1) := by decide +kernel
theorem dX12_sends_78 : decode cX12_sends 78 = .ok (.iload 4, 2) := by decide +kernel
theorem dX12_sends_80 : decode cX12_sends 80 = .ok (.ishr, 1) := by decide +kernel
theorem dX12_sends_81 : decode cX12_sends 81 = .ok (.iconst 1, 1) := by decide +kernel
theorem dX12_sends_82 : decode cX12_sends 82 = .ok (.iand, 1) := by decide +kernel
theorem dX12_sends_83 : decode cX12_sends 83 = .ok (.invokevirtual 112, 3) := by decide +kernel
theorem dX12_sends_86 : decode cX12_sends 86 = .ok (.iinc 4 (-1), 3) := by decide +kernel
theorem dX12_sends_89 : decode cX12_sends 89 = .ok (.goto (-27), 3) := by decide +kernel
theorem dX12_sends_92 : decode cX12_sends 92 = .ok (.iinc 3 1, 3) := by decide +kernel
theorem dX12_sends_95 : decode cX12_sends 95 = .ok (.goto (-47), 3) := by decide +kernel
theorem dX12_sends_98 : decode cX12_sends 98 = .ok (.aload_n 0, 1) := by decide +kernel
theorem dX12_sends_99 : decode cX12_sends 99 = .ok (.dup, 1) := by decide +kernel
theorem dX12_sends_100 : decode cX12_sends 100 = .ok (.getfield 109, 3) := by decide +kernel
theorem dX12_sends_103 : decode cX12_sends 103 = .ok (.iconst 1, 1) := by decide +kernel
theorem dX12_sends_104 : decode cX12_sends 104 = .ok (.iadd, 1) := by decide +kernel
theorem dX12_sends_105 : decode cX12_sends 105 = .ok (.putfield 109, 3) := by decide +kernel
theorem dX12_sends_108 : decode cX12_sends 108 = .ok (.return_, 1) := by decide +kernel
theorem dX12_hasRoom_0 : decode cX12_hasRoom 0 = .ok (.aload_n 0, 1) := by decide +kernel
theorem dX12_hasRoom_1 : decode cX12_hasRoom 1 = .ok (.getfield 109, 3) := by decide +kernel
theorem dX12_hasRoom_4 : decode cX12_hasRoom 4 = .ok (.iload_n 1, 1) := by decide +kernel
theorem dX12_hasRoom_5 : decode cX12_hasRoom 5 = .ok (.iadd, 1) := by decide +kernel
theorem dX12_hasRoom_6 : decode cX12_hasRoom 6 = .ok (.bipush 64, 2) := by decide +kernel
theorem dX12_hasRoom_8 : decode cX12_hasRoom 8 = .ok (.if_icmp .gt 24, 3) := by decide +kernel
theorem dX12_hasRoom_11 : decode cX12_hasRoom 11 = .ok (.aload_n 0, 1) := by decide +kernel
theorem dX12_hasRoom_12 : decode cX12_hasRoom 12 = .ok (.getfield 64, 3) := by decide +kernel
theorem dX12_hasRoom_15 : decode cX12_hasRoom 15 = .ok (.iload_n 1, 1) := by decide +kernel
theorem dX12_hasRoom_16 : decode cX12_hasRoom 16 = .ok (.aload_n 0, 1) := by decide +kernel
theorem dX12_hasRoom_17 : decode cX12_hasRoom 17 = .ok (.invokevirtual 115, 3) := by decide +kernel
theorem dX12_hasRoom_20 : decode cX12_hasRoom 20 = .ok (.imul, 1) := by decide +kernel
theorem dX12_hasRoom_21 : decode cX12_hasRoom 21 = .ok (.iadd, 1) := by decide +kernel
theorem dX12_hasRoom_22 : decode cX12_hasRoom 22 = .ok (.sipush 9600, 3) := by decide +kernel
theorem dX12_hasRoom_25 : decode cX12_hasRoom 25 = .ok (.if_icmp .gt 7, 3) := by decide +kernel
theorem dX12_hasRoom_28 : decode cX12_hasRoom 28 = .ok (.iconst 1, 1) := by decide +kernel
theorem dX12_hasRoom_29 : decode cX12_hasRoom 29 = .ok (.goto 4, 3) := by decide +kernel
theorem dX12_hasRoom_32 : decode cX12_hasRoom 32 = .ok (.iconst 0, 1) := by decide +kernel
theorem dX12_hasRoom_33 : decode cX12_hasRoom 33 = .ok (.ireturn, 1) := by decide +kernel
theorem dX12_send_0 : decode cX12_send 0 = .ok (.aload_n 0, 1) := by decide +kernel
theorem dX12_send_1 : decode cX12_send 1 = .ok (.iconst 0, 1) := by decide +kernel
theorem dX12_send_2 : decode cX12_send 2 = .ok (.putfield 1, 3) := by decide +kernel
theorem dX12_send_5 : decode cX12_send 5 = .ok (.iload_n 2, 1) := by decide +kernel
theorem dX12_send_6 : decode cX12_send 6 = .ok (.i2l, 1) := by decide +kernel
theorem dX12_send_7 : decode cX12_send 7 = .ok (.lconst 0, 1) := by decide +kernel
theorem dX12_send_8 : decode cX12_send 8 = .ok (.ldc2_w 119, 3) := by decide +kernel
theorem dX12_send_11 : decode cX12_send 11 = .ok (.invokestatic 77, 3) := by decide +kernel
theorem dX12_send_14 : decode cX12_send 14 = .ok (.ifCond .ne 6, 3) := by decide +kernel
theorem dX12_send_17 : decode cX12_send 17 = .ok (.bipush (-3), 2) := by decide +kernel
theorem dX12_send_19 : decode cX12_send 19 = .ok (.ireturn, 1) := by decide +kernel
theorem dX12_send_20 : decode cX12_send 20 = .ok (.aload_n 0, 1) := by decide +kernel
theorem dX12_send_21 : decode cX12_send 21 = .ok (.iconst 1, 1) := by decide +kernel
theorem dX12_send_22 : decode cX12_send 22 = .ok (.invokevirtual 121, 3) := by decide +kernel
theorem dX12_send_25 : decode cX12_send 25 = .ok (.ifCond .ne 6, 3) := by decide +kernel
theorem dX12_send_28 : decode cX12_send 28 = .ok (.bipush (-4), 2) := by decide +kernel
theorem dX12_send_30 : decode cX12_send 30 = .ok (.ireturn, 1) := by decide +kernel
theorem dX12_send_31 : decode cX12_send 31 = .ok (.iload_n 2, 1) := by decide +kernel
theorem dX12_send_32 : decode cX12_send 32 = .ok (.istore_n 3, 1) := by decide +kernel
theorem dX12_send_33 : decode cX12_send 33 = .ok (.iconst 0, 1) := by decide +kernel
theorem dX12_send_34 : decode cX12_send 34 = .ok (.istore 4, 2) := by decide +kernel
theorem dX12_send_36 : decode cX12_send 36 = .ok (.iload 4, 2) := by decide +kernel
theorem dX12_send_38 : decode cX12_send 38 = .ok (.aload_n 0, 1) := by decide +kernel
theorem dX12_send_39 : decode cX12_send 39 = .ok (.getfield 13, 3) := by decide +kernel
theorem dX12_send_42 : decode cX12_send 42 = .ok (.iconst 0, 1) := by decide +kernel
theorem dX12_send_43 : decode cX12_send 43 = .ok (.iaload, 1) := by decide +kernel
theorem dX12_send_44 : decode cX12_send 44 = .ok (.if_icmp .ge 44, 3) := by decide +kernel
theorem dX12_send_47 : decode cX12_send 47 = .ok (.iload_n 3, 1) := by decide +kernel
theorem dX12_send_48 : decode cX12_send 48 = .ok (.sipush 1103, 3) := by decide +kernel
theorem dX12_send_51 : decode cX12_send 51 = .ok (.imul, 1) := by decide +kernel
theorem dX12_send_52 : decode cX12_send 52 = .ok (.sipush 12345, 3) := by decide +kernel
theorem dX12_send_55 : decode cX12_send 55 = .ok (.iadd, 1) := by decide +kernel
theorem dX12_send_56 : decode cX12_send 56 = .ok (.ldc 125, 2) := by decide +kernel
theorem dX12_send_58 : decode cX12_send 58 = .ok (.irem, 1) := by decide +kernel
theorem dX12_send_59 : decode cX12_send 59 = .ok (.istore_n 3, 1) := by decide +kernel
theorem dX12_send_60 : decode cX12_send 60 = .ok (.aload_n 0, 1) := by decide +kernel
theorem dX12_send_61 : decode cX12_send 61 = .ok (.getfield 26, 3) := by decide +kernel
theorem dX12_send_64 : decode cX12_send 64 = .ok (.bipush 50, 2) := by decide +kernel
theorem dX12_send_66 : decode cX12_send 66 = .ok (.aload_n 0, 1) := by decide +kernel
theorem dX12_send_67 : decode cX12_send 67 = .ok (.getfield 109, 3) := by decide +kernel
theorem dX12_send_70 : decode cX12_send 70 = .ok (.imul, 1) := by decide +kernel
theorem dX12_send_71 : decode cX12_send 71 = .ok (.iconst 2, 1) := by decide +kernel
theorem dX12_send_72 : decode cX12_send 72 = .ok (.iadd, 1) := by decide +kernel
theorem dX12_send_73 : decode cX12_send 73 = .ok (.iload 4, 2) := by decide +kernel
theorem dX12_send_75 : decode cX12_send 75 = .ok (.iadd, 1) := by decide +kernel
theorem dX12_send_76 : decode cX12_send 76 = .ok (.iload_n 3, 1) := by decide +kernel
theorem dX12_send_77 : decode cX12_send 77 = .ok (.sipush 256, 3) := by decide +kernel
theorem dX12_send_80 : decode cX12_send 80 = .ok (.irem, 1) := by decide +kernel
theorem dX12_send_81 : decode cX12_send 81 = .ok (.iastore, 1) := by decide +kernel
theorem dX12_send_82 : decode cX12_send 82 = .ok (.iinc 4 1, 3) := by decide +kernel
theorem dX12_send_85 : decode cX12_send 85 = .ok (.goto (-49), 3) := by decide +kernel
theorem dX12_send_88 : decode cX12_send 88 = .ok (.aload_n 0, 1) := by decide +kernel
theorem dX12_send_89 : decode cX12_send 89 = .ok (.iload_n 1, 1) := by decide +kernel
theorem dX12_send_90 : decode cX12_send 90 = .ok (.invokevirtual 126, 3) := by decide +kernel
theorem dX12_send_93 : decode cX12_send 93 = .ok (.aload_n 0, 1) := by decide +kernel
theorem dX12_send_94 : decode cX12_send 94 = .ok (.getfield 109, 3) := by decide +kernel
theorem dX12_send_97 : decode cX12_send 97 = .ok (.iconst 1, 1) := by decide +kernel
theorem dX12_send_98 : decode cX12_send 98 = .ok (.isub, 1) := by decide +kernel
theorem dX12_send_99 : decode cX12_send 99 = .ok (.ireturn, 1) := by decide +kernel
theorem dX12_rest_0 : decode cX12_rest 0 = .ok (.aload_n 0, 1) := by decide +kernel
theorem dX12_rest_1 : decode cX12_rest 1 = .ok (.iconst 0, 1) := by decide +kernel
theorem dX12_rest_2 : decode cX12_rest 2 = .ok (.putfield 1, 3) := by decide +kernel
theorem dX12_rest_5 : decode cX12_rest 5 = .ok (.iload_n 1, 1) := by decide +kernel
theorem dX12_rest_6 : decode cX12_rest 6 = .ok (.i2l, 1) := by decide +kernel
theorem dX12_rest_7 : decode cX12_rest 7 = .ok (.lconst 1, 1) := by decide +kernel
theorem dX12_rest_8 : decode cX12_rest 8 = .ok (.ldc2_w 129, 3) := by decide +kernel
theorem dX12_rest_11 : decode cX12_rest 11 = .ok (.invokestatic 77, 3) := by decide +kernel
theorem dX12_rest_14 : decode cX12_rest 14 = .ok (.ifCond .ne 6, 3) := by decide +kernel
theorem dX12_rest_17 : decode cX12_rest 17 = .ok (.bipush (-3), 2) := by decide +kernel
theorem dX12_rest_19 : decode cX12_rest 19 = .ok (.ireturn, 1) := by decide +kernel
theorem dX12_rest_20 : decode cX12_rest 20 = .ok (.aload_n 0, 1) := by decide +kernel
theorem dX12_rest_21 : decode cX12_rest 21 = .ok (.iload_n 1, 1) := by decide +kernel
theorem dX12_rest_22 : decode cX12_rest 22 = .ok (.invokevirtual 121, 3) := by decide +kernel
theorem dX12_rest_25 : decode cX12_rest 25 = .ok (.ifCond .ne 6, 3) := by decide +kernel
theorem dX12_rest_28 : decode cX12_rest 28 = .ok (.bipush (-4), 2) := by decide +kernel
theorem dX12_rest_30 : decode cX12_rest 30 = .ok (.ireturn, 1) := by decide +kernel
theorem dX12_rest_31 : decode cX12_rest 31 = .ok (.iconst 0, 1) := by decide +kernel
theorem dX12_rest_32 : decode cX12_rest 32 = .ok (.istore_n 2, 1) := by decide +kernel
theorem dX12_rest_33 : decode cX12_rest 33 = .ok (.iload_n 2, 1) := by decide +kernel
theorem dX12_rest_34 : decode cX12_rest 34 = .ok (.iload_n 1, 1) := by decide +kernel
theorem dX12_rest_35 : decode cX12_rest 35 = .ok (.if_icmp .ge 50, 3) := by decide +kernel
theorem dX12_rest_38 : decode cX12_rest 38 = .ok (.iconst 0, 1) := by decide +kernel
theorem dX12_rest_39 : decode cX12_rest 39 = .ok (.istore_n 3, 1) := by decide +kernel
theorem dX12_rest_40 : decode cX12_rest 40 = .ok (.iload_n 3, 1) := by decide +kernel
theorem dX12_rest_41 : decode cX12_rest 41 = .ok (.aload_n 0, 1) := by decide +kernel
theorem dX12_rest_42 : decode cX12_rest 42 = .ok (.getfield 13, 3) := by decide +kernel
theorem dX12_rest_45 : decode cX12_rest 45 = .ok (.iconst 0, 1) := by decide +kernel
theorem dX12_rest_46 : decode cX12_rest 46 = .ok (.iaload, 1) := by decide +kernel
theorem dX12_rest_47 : decode cX12_rest 47 = .ok (.if_icmp .ge 27, 3) := by decide +kernel
theorem dX12_rest_50 : decode cX12_rest 50 = .ok (.aload_n 0, 1) := by decide +kernel
theorem dX12_rest_51 : decode cX12_rest 51 = .ok (.getfield 26, 3) := by decide +kernel
theorem dX12_rest_54 : decode cX12_rest 54 = .ok (.bipush 50, 2) := by decide +kernel
theorem dX12_rest_56 : decode cX12_rest 56 = .ok (.aload_n 0, 1) := by decide +kernel
theorem dX12_rest_57 : decode cX12_rest 57 = .ok (.getfield 109, 3) := by decide +kernel
theorem dX12_rest_60 : decode cX12_rest 60 = .ok (.imul, 1) := by decide +kernel
theorem dX12_rest_61 : decode cX12_rest 61 = .ok (.iconst 2, 1) := by decide +kernel
theorem dX12_rest_62 : decode cX12_rest 62 = .ok (.iadd, 1) := by decide +kernel
theorem dX12_rest_63 : decode cX12_rest 63 = .ok (.iload_n 3, 1) := by decide +kernel
theorem dX12_rest_64 : decode cX12_rest 64 = .ok (.iadd, 1) := by decide +kernel
theorem dX12_rest_65 : decode cX12_rest 65 = .ok (.bipush 106, 2) := by decide +kernel
theorem dX12_rest_67 : decode cX12_rest 67 = .ok (.iastore, 1) := by decide +kernel
theorem dX12_rest_68 : decode cX12_rest 68 = .ok (.iinc 3 1, 3) := by decide +kernel
theorem dX12_rest_71 : decode cX12_rest 71 = .ok (.goto (-31), 3) := by decide +kernel
theorem dX12_rest_74 : decode cX12_rest 74 = .ok (.aload_n 0, 1) := by decide +kernel
theorem dX12_rest_75 : decode cX12_rest 75 = .ok (.iconst 1, 1) := by decide +kernel
theorem dX12_rest_76 : decode cX12_rest 76 = .ok (.invokevirtual 126, 3) := by decide +kernel
theorem dX12_rest_79 : decode cX12_rest 79 = .ok (.iinc 2 1, 3) := by decide +kernel
theorem dX12_rest_82 : decode cX12_rest 82 = .ok (.goto (-49), 3) := by decide +kernel
theorem dX12_rest_85 : decode cX12_rest 85 = .ok (.aload_n 0, 1) := by decide +kernel
theorem dX12_rest_86 : decode cX12_rest 86 = .ok (.getfield 109, 3) := by decide +kernel
theorem dX12_rest_89 : decode cX12_rest 89 = .ok (.ireturn, 1) := by decide +kernel
theorem dX12_isBit_0 : decode cX12_isBit 0 = .ok (.iload_n 1, 1) := by decide +kernel
theorem dX12_isBit_1 : decode cX12_isBit 1 = .ok (.i2l, 1) := by decide +kernel
theorem dX12_isBit_2 : decode cX12_isBit 2 = .ok (.lconst 0, 1) := by decide +kernel
theorem dX12_isBit_3 : decode cX12_isBit 3 = .ok (.aload_n 0, 1) := by decide +kernel
theorem dX12_isBit_4 : decode cX12_isBit 4 = .ok (.getfield 64, 3) := by decide +kernel
theorem dX12_isBit_7 : decode cX12_isBit 7 = .ok (.iconst 1, 1) := by decide +kernel
theorem dX12_isBit_8 : decode cX12_isBit 8 = .ok (.isub, 1) := by decide +kernel
theorem dX12_isBit_9 : decode cX12_isBit 9 = .ok (.i2l, 1) := by decide +kernel
theorem dX12_isBit_10 : decode cX12_isBit 10 = .ok (.invokestatic 77, 3) := by decide +kernel
theorem dX12_isBit_13 : decode cX12_isBit 13 = .ok (.ireturn, 1) := by decide +kernel
theorem dX12_flip_0 : decode cX12_flip 0 = .ok (.aload_n 0, 1) := by decide +kernel
theorem dX12_flip_1 : decode cX12_flip 1 = .ok (.iconst 0, 1) := by decide +kernel
theorem dX12_flip_2 : decode cX12_flip 2 = .ok (.putfield 1, 3) := by decide +kernel
theorem dX12_flip_5 : decode cX12_flip 5 = .ok (.aload_n 0, 1) := by decide +kernel
theorem dX12_flip_6 : decode cX12_flip 6 = .ok (.iload_n 1, 1) := by decide +kernel
theorem dX12_flip_7 : decode cX12_flip 7 = .ok (.invokevirtual 131, 3) := by decide +kernel
theorem dX12_flip_10 : decode cX12_flip 10 = .ok (.ifCond .ne 6, 3) := by decide +kernel
theorem dX12_flip_13 : decode cX12_flip 13 = .ok (.bipush (-2), 2) := by decide +kernel
theorem dX12_flip_15 : decode cX12_flip 15 = .ok (.ireturn, 1) := by decide +kernel
theorem dX12_flip_16 : decode cX12_flip 16 = .ok (.iload_n 1, 1) := by decide +kernel
theorem dX12_flip_17 : decode cX12_flip 17 = .ok (.aload_n 0, 1) := by decide +kernel
theorem dX12_flip_18 : decode cX12_flip 18 = .ok (.getfield 32, 3) := by decide +kernel
theorem dX12_flip_21 : decode cX12_flip 21 = .ok (.iconst 0, 1) := by decide +kernel
theorem dX12_flip_22 : decode cX12_flip 22 = .ok (.iaload, 1) := by decide +kernel
theorem dX12_flip_23 : decode cX12_flip 23 = .ok (.if_icmp .ge 6, 3) := by decide +kernel
theorem dX12_flip_26 : decode cX12_flip 26 = .ok (.bipush (-5), 2) := by decide +kernel
theorem dX12_flip_28 : decode cX12_flip 28 = .ok (.ireturn, 1) := by decide +kernel
theorem dX12_flip_29 : decode cX12_flip 29 = .ok (.aload_n 0, 1) := by decide +kernel
theorem dX12_flip_30 : decode cX12_flip 30 = .ok (.getfield 23, 3) := by decide +kernel
theorem dX12_flip_33 : decode cX12_flip 33 = .ok (.iload_n 1, 1) := by decide +kernel
theorem dX12_flip_34 : decode cX12_flip 34 = .ok (.iconst 1, 1) := by decide +kernel
theorem dX12_flip_35 : decode cX12_flip 35 = .ok (.aload_n 0, 1) := by decide +kernel
theorem dX12_flip_36 : decode cX12_flip 36 = .ok (.getfield 23, 3) := by decide +kernel
theorem dX12_flip_39 : decode cX12_flip 39 = .ok (.iload_n 1, 1) := by decide +kernel
theorem dX12_flip_40 : decode cX12_flip 40 = .ok (.iaload, 1) := by decide +kernel
theorem dX12_flip_41 : decode cX12_flip 41 = .ok (.isub, 1) := by decide +kernel
theorem dX12_flip_42 : decode cX12_flip 42 = .ok (.iastore, 1) := by decide +kernel
theorem dX12_flip_43 : decode cX12_flip 43 = .ok (.aload_n 0, 1) := by decide +kernel
theorem dX12_flip_44 : decode cX12_flip 44 = .ok (.getfield 23, 3) := by decide +kernel
theorem dX12_flip_47 : decode cX12_flip 47 = .ok (.iload_n 1, 1) := by decide +kernel
theorem dX12_flip_48 : decode cX12_flip 48 = .ok (.iaload, 1) := by decide +kernel
theorem dX12_flip_49 : decode cX12_flip 49 = .ok (.ireturn, 1) := by decide +kernel
theorem dX12_drop_0 : decode cX12_drop 0 = .ok (.aload_n 0, 1) := by decide +kernel
theorem dX12_drop_1 : decode cX12_drop 1 = .ok (.iconst 0, 1) := by decide +kernel
theorem dX12_drop_2 : decode cX12_drop 2 = .ok (.putfield 1, 3) := by decide +kernel
theorem dX12_drop_5 : decode cX12_drop 5 = .ok (.aload_n 0, 1) := by decide +kernel
theorem dX12_drop_6 : decode cX12_drop 6 = .ok (.iload_n 1, 1) := by decide +kernel
theorem dX12_drop_7 : decode cX12_drop 7 = .ok (.invokevirtual 131, 3) := by decide +kernel
theorem dX12_drop_10 : decode cX12_drop 10 = .ok (.ifCond .ne 6, 3) := by decide +kernel
theorem dX12_drop_13 : decode cX12_drop 13 = .ok (.bipush (-2), 2) := by decide +kernel
theorem dX12_drop_15 : decode cX12_drop 15 = .ok (.ireturn, 1) := by decide +kernel
theorem dX12_drop_16 : decode cX12_drop 16 = .ok (.iload_n 2, 1) := by decide +kernel
theorem dX12_drop_17 : decode cX12_drop 17 = .ok (.i2l, 1) := by decide +kernel
theorem dX12_drop_18 : decode cX12_drop 18 = .ok (.lconst 1, 1) := by decide +kernel
theorem dX12_drop_19 : decode cX12_drop 19 = .ok (.ldc2_w 134, 3) := by decide +kernel
theorem dX12_drop_22 : decode cX12_drop 22 = .ok (.invokestatic 77, 3) := by decide +kernel
theorem dX12_drop_25 : decode cX12_drop 25 = .ok (.ifCond .eq 13, 3) := by decide +kernel
theorem dX12_drop_28 : decode cX12_drop 28 = .ok (.iload_n 2, 1) := by decide +kernel
theorem dX12_drop_29 : decode cX12_drop 29 = .ok (.aload_n 0, 1) := by decide +kernel
theorem dX12_drop_30 : decode cX12_drop 30 = .ok (.getfield 64, 3) := by decide +kernel
theorem dX12_drop_33 : decode cX12_drop 33 = .ok (.iload_n 1, 1) := by decide +kernel
theorem dX12_drop_34 : decode cX12_drop 34 = .ok (.isub, 1) := by decide +kernel
theorem dX12_drop_35 : decode cX12_drop 35 = .ok (.if_icmp .le 6, 3) := by decide +kernel
theorem dX12_drop_38 : decode cX12_drop 38 = .ok (.bipush (-3), 2) := by decide +kernel
theorem dX12_drop_40 : decode cX12_drop 40 = .ok (.ireturn, 1) := by decide +kernel
theorem dX12_drop_41 : decode cX12_drop 41 = .ok (.iload_n 1, 1) := by decide +kernel
theorem dX12_drop_42 : decode cX12_drop 42 = .ok (.aload_n 0, 1) := by decide +kernel
theorem dX12_drop_43 : decode cX12_drop 43 = .ok (.getfield 32, 3) := by decide +kernel
theorem dX12_drop_46 : decode cX12_drop 46 = .ok (.iconst 0, 1) := by decide +kernel
theorem dX12_drop_47 : decode cX12_drop 47 = .ok (.iaload, 1) := by decide +kernel
theorem dX12_drop_48 : decode cX12_drop 48 = .ok (.if_icmp .ge 6, 3) := by decide +kernel
theorem dX12_drop_51 : decode cX12_drop 51 = .ok (.bipush (-5), 2) := by decide +kernel
theorem dX12_drop_53 : decode cX12_drop 53 = .ok (.ireturn, 1) := by decide +kernel
theorem dX12_drop_54 : decode cX12_drop 54 = .ok (.iload_n 1, 1) := by decide +kernel
theorem dX12_drop_55 : decode cX12_drop 55 = .ok (.iload_n 2, 1) := by decide +kernel
theorem dX12_drop_56 : decode cX12_drop 56 = .ok (.iadd, 1) := by decide +kernel
theorem dX12_drop_57 : decode cX12_drop 57 = .ok (.istore_n 3, 1) := by decide +kernel
theorem dX12_drop_58 : decode cX12_drop 58 = .ok (.iload_n 3, 1) := by decide +kernel
theorem dX12_drop_59 : decode cX12_drop 59 = .ok (.aload_n 0, 1) := by decide +kernel
theorem dX12_drop_60 : decode cX12_drop 60 = .ok (.getfield 64, 3) := by decide +kernel
theorem dX12_drop_63 : decode cX12_drop 63 = .ok (.if_icmp .ge 23, 3) := by decide +kernel
theorem dX12_drop_66 : decode cX12_drop 66 = .ok (.aload_n 0, 1) := by decide +kernel
theorem dX12_drop_67 : decode cX12_drop 67 = .ok (.getfield 23, 3) := by decide +kernel
theorem dX12_drop_70 : decode cX12_drop 70 = .ok (.iload_n 3, 1) := by decide +kernel
theorem dX12_drop_71 : decode cX12_drop 71 = .ok (.iload_n 2, 1) := by decide +kernel
theorem dX12_drop_72 : decode cX12_drop 72 = .ok (.isub, 1) := by decide +kernel
theorem dX12_drop_73 : decode cX12_drop 73 = .ok (.aload_n 0, 1) := by decide +kernel
theorem dX12_drop_74 : decode cX12_drop 74 = .ok (.getfield 23, 3) := by decide +kernel
theorem dX12_drop_77 : decode cX12_drop 77 = .ok (.iload_n 3, 1) := by decide +kernel
theorem dX12_drop_78 : decode cX12_drop 78 = .ok (.iaload, 1) := by decide +kernel
theorem dX12_drop_79 : decode cX12_drop 79 = .ok (.iastore, 1) := by decide +kernel
theorem dX12_drop_80 : decode cX12_drop 80 = .ok (.iinc 3 1, 3) := by decide +kernel
theorem dX12_drop_83 : decode cX12_drop 83 = .ok (.goto (-25), 3) := by decide +kernel
theorem dX12_drop_86 : decode cX12_drop 86 = .ok (.aload_n 0, 1) := by decide +kernel
theorem dX12_drop_87 : decode cX12_drop 87 = .ok (.dup, 1) := by decide +kernel
theorem dX12_drop_88 : decode cX12_drop 88 = .ok (.getfield 64, 3) := by decide +kernel
theorem dX12_drop_91 : decode cX12_drop 91 = .ok (.iload_n 2, 1) := by decide +kernel
theorem dX12_drop_92 : decode cX12_drop 92 = .ok (.isub, 1) := by decide +kernel
theorem dX12_drop_93 : decode cX12_drop 93 = .ok (.putfield 64, 3) := by decide +kernel
theorem dX12_drop_96 : decode cX12_drop 96 = .ok (.aload_n 0, 1) := by decide +kernel
theorem dX12_drop_97 : decode cX12_drop 97 = .ok (.getfield 64, 3) := by decide +kernel
theorem dX12_drop_100 : decode cX12_drop 100 = .ok (.ireturn, 1) := by decide +kernel
theorem dX12_slip_0 : decode cX12_slip 0 = .ok (.aload_n 0, 1) := by decide +kernel
theorem dX12_slip_1 : decode cX12_slip 1 = .ok (.iconst 0, 1) := by decide +kernel
theorem dX12_slip_2 : decode cX12_slip 2 = .ok (.putfield 1, 3) := by decide +kernel
theorem dX12_slip_5 : decode cX12_slip 5 = .ok (.iload_n 1, 1) := by decide +kernel
theorem dX12_slip_6 : decode cX12_slip 6 = .ok (.i2l, 1) := by decide +kernel
theorem dX12_slip_7 : decode cX12_slip 7 = .ok (.lconst 0, 1) := by decide +kernel
theorem dX12_slip_8 : decode cX12_slip 8 = .ok (.aload_n 0, 1) := by decide +kernel
theorem dX12_slip_9 : decode cX12_slip 9 = .ok (.getfield 64, 3) := by decide +kernel
theorem dX12_slip_12 : decode cX12_slip 12 = .ok (.i2l, 1) := by decide +kernel
theorem dX12_slip_13 : decode cX12_slip 13 = .ok (.invokestatic 77, 3) := by decide +kernel
theorem dX12_slip_16 : decode cX12_slip 16 = .ok (.ifCond .ne 6, 3) := by decide +kernel
theorem dX12_slip_19 : decode cX12_slip 19 = .ok (.bipush (-2), 2) := by decide +kernel
theorem dX12_slip_21 : decode cX12_slip 21 = .ok (.ireturn, 1) := by decide +kernel
theorem dX12_slip_22 : decode cX12_slip 22 = .ok (.iload_n 2, 1) := by decide +kernel
theorem dX12_slip_23 : decode cX12_slip 23 = .ok (.i2l, 1) := by decide +kernel
theorem dX12_slip_24 : decode cX12_slip 24 = .ok (.lconst 1, 1) := by decide +kernel
theorem dX12_slip_25 : decode cX12_slip 25 = .ok (.ldc2_w 75, 3) := by decide +kernel
theorem dX12_slip_28 : decode cX12_slip 28 = .ok (.invokestatic 77, 3) := by decide +kernel
theorem dX12_slip_31 : decode cX12_slip 31 = .ok (.ifCond .ne 6, 3) := by decide +kernel
theorem dX12_slip_34 : decode cX12_slip 34 = .ok (.bipush (-3), 2) := by decide +kernel
theorem dX12_slip_36 : decode cX12_slip 36 = .ok (.ireturn, 1) := by decide +kernel
theorem dX12_slip_37 : decode cX12_slip 37 = .ok (.aload_n 0, 1) := by decide +kernel
theorem dX12_slip_38 : decode cX12_slip 38 = .ok (.getfield 64, 3) := by decide +kernel
theorem dX12_slip_41 : decode cX12_slip 41 = .ok (.iload_n 2, 1) := by decide +kernel
theorem dX12_slip_42 : decode cX12_slip 42 = .ok (.iadd, 1) := by decide +kernel
theorem dX12_slip_43 : decode cX12_slip 43 = .ok (.sipush 9600, 3) := by decide +kernel
theorem dX12_slip_46 : decode cX12_slip 46 = .ok (.if_icmp .le 6, 3) := by decide +kernel
theorem dX12_slip_49 : decode cX12_slip 49 = .ok (.bipush (-4), 2) := by decide +kernel
theorem dX12_slip_51 : decode cX12_slip 51 = .ok (.ireturn, 1) := by decide +kernel
theorem dX12_slip_52 : decode cX12_slip 52 = .ok (.iload_n 1, 1) := by decide +kernel
theorem dX12_slip_53 : decode cX12_slip 53 = .ok (.aload_n 0, 1) := by decide +kernel
theorem dX12_slip_54 : decode cX12_slip 54 = .ok (.getfield 32, 3) := by decide +kernel
theorem dX12_slip_57 : decode cX12_slip 57 = .ok (.iconst 0, 1) := by decide +kernel
theorem dX12_slip_58 : decode cX12_slip 58 = .ok (.iaload, 1) := by decide +kernel
theorem dX12_slip_59 : decode cX12_slip 59 = .ok (.if_icmp .ge 6, 3) := by decide +kernel
theorem dX12_slip_62 : decode cX12_slip 62 = .ok (.bipush (-5), 2) := by decide +kernel
theorem dX12_slip_64 : decode cX12_slip 64 = .ok (.ireturn, 1) := by decide +kernel
theorem dX12_slip_65 : decode cX12_slip 65 = .ok (.aload_n 0, 1) := by decide +kernel
theorem dX12_slip_66 : decode cX12_slip 66 = .ok (.getfield 64, 3) := by decide +kernel
theorem dX12_slip_69 : decode cX12_slip 69 = .ok (.iconst 1, 1) := by decide +kernel
theorem dX12_slip_70 : decode cX12_slip 70 = .ok (.isub, 1) := by decide +kernel
theorem dX12_slip_71 : decode cX12_slip 71 = .ok (.istore 4, 2) := by decide +kernel
theorem dX12_slip_73 : decode cX12_slip 73 = .ok (.iload 4, 2) := by decide +kernel
theorem dX12_slip_75 : decode cX12_slip 75 = .ok (.iload_n 1, 1) := by decide +kernel
theorem dX12_slip_76 : decode cX12_slip 76 = .ok (.if_icmp .lt 25, 3) := by decide +kernel
theorem dX12_slip_79 : decode cX12_slip 79 = .ok (.aload_n 0, 1) := by decide +kernel
theorem dX12_slip_80 : decode cX12_slip 80 = .ok (.getfield 23, 3) := by decide +kernel
theorem dX12_slip_83 : decode cX12_slip 83 = .ok (.iload 4, 2) := by decide +kernel
theorem dX12_slip_85 : decode cX12_slip 85 = .ok (.iload_n 2, 1) := by decide +kernel
theorem dX12_slip_86 : decode cX12_slip 86 = .ok (.iadd, 1) := by decide +kernel
theorem dX12_slip_87 : decode cX12_slip 87 = .ok (.aload_n 0, 1) := by decide +kernel
theorem dX12_slip_88 : decode cX12_slip 88 = .ok (.getfield 23, 3) := by decide +kernel
theorem dX12_slip_91 : decode cX12_slip 91 = .ok (.iload 4, 2) := by decide +kernel
theorem dX12_slip_93 : decode cX12_slip 93 = .ok (.iaload, 1) := by decide +kernel
theorem dX12_slip_94 : decode cX12_slip 94 = .ok (.iastore, 1) := by decide +kernel
theorem dX12_slip_95 : decode cX12_slip 95 = .ok (.iinc 4 (-1), 3) := by decide +kernel
theorem dX12_slip_98 : decode cX12_slip 98 = .ok (.goto (-25), 3) := by decide +kernel
theorem dX12_slip_101 : decode cX12_slip 101 = .ok (.iconst 0, 1) := by decide +kernel
theorem dX12_slip_102 : decode cX12_slip 102 = .ok (.istore 4, 2) := by decide +kernel
theorem dX12_slip_104 : decode cX12_slip 104 = .ok (.iload 4, 2) := by decide +kernel
theorem dX12_slip_106 : decode cX12_slip 106 = .ok (.iload_n 2, 1) := by decide +kernel
theorem dX12_slip_107 : decode cX12_slip 107 = .ok (.if_icmp .ge 28, 3) := by decide +kernel
theorem dX12_slip_110 : decode cX12_slip 110 = .ok (.aload_n 0, 1) := by decide +kernel
theorem dX12_slip_111 : decode cX12_slip 111 = .ok (.getfield 23, 3) := by decide +kernel
theorem dX12_slip_114 : decode cX12_slip 114 = .ok (.iload_n 1, 1) := by decide +kernel
theorem dX12_slip_115 : decode cX12_slip 115 = .ok (.iload 4, 2) := by decide +kernel
theorem dX12_slip_117 : decode cX12_slip 117 = .ok (.iadd, 1) := by decide +kernel
theorem dX12_slip_118 : decode cX12_slip 118 = .ok (.iload_n 3, 1) := by decide +kernel
theorem dX12_slip_119 : decode cX12_slip 119 = .ok (.iload_n 2, 1) := by decide +kernel
theorem dX12_slip_120 : decode cX12_slip 120 = .ok (.iconst 1, 1) := by decide +kernel
theorem dX12_slip_121 : decode cX12_slip 121 = .ok (.isub, 1) := by decide +kernel
theorem dX12_slip_122 : decode cX12_slip 122 = .ok (.iload 4, 2) := by decide +kernel
theorem dX12_slip_124 : decode cX12_slip 124 = .ok (.isub, 1) := by decide +kernel
theorem dX12_slip_125 : decode cX12_slip 125 = .ok (.iushr, 1) := by decide +kernel
theorem dX12_slip_126 : decode cX12_slip 126 = .ok (.iconst 1, 1) := by decide +kernel
theorem dX12_slip_127 : decode cX12_slip 127 = .ok (.iand, 1) := by decide +kernel
theorem dX12_slip_128 : decode cX12_slip 128 = .ok (.iastore, 1) := by decide +kernel
theorem dX12_slip_129 : decode cX12_slip 129 = .ok (.iinc 4 1, 3) := by decide +kernel
theorem dX12_slip_132 : decode cX12_slip 132 = .ok (.goto (-28), 3) := by decide +kernel
theorem dX12_slip_135 : decode cX12_slip 135 = .ok (.aload_n 0, 1) := by decide +kernel
theorem dX12_slip_136 : decode cX12_slip 136 = .ok (.dup, 1) := by decide +kernel
theorem dX12_slip_137 : decode cX12_slip 137 = .ok (.getfield 64, 3) := by decide +kernel
theorem dX12_slip_140 : decode cX12_slip 140 = .ok (.iload_n 2, 1) := by decide +kernel
theorem dX12_slip_141 : decode cX12_slip 141 = .ok (.iadd, 1) := by decide +kernel
theorem dX12_slip_142 : decode cX12_slip 142 = .ok (.putfield 64, 3) := by decide +kernel
theorem dX12_slip_145 : decode cX12_slip 145 = .ok (.aload_n 0, 1) := by decide +kernel
theorem dX12_slip_146 : decode cX12_slip 146 = .ok (.getfield 64, 3) := by decide +kernel
theorem dX12_slip_149 : decode cX12_slip 149 = .ok (.ireturn, 1) := by decide +kernel
theorem dX12_disturb_0 : decode cX12_disturb 0 = .ok (.aload_n 0, 1) := by decide +kernel
theorem dX12_disturb_1 : decode cX12_disturb 1 = .ok (.iconst 0, 1) := by decide +kernel
theorem dX12_disturb_2 : decode cX12_disturb 2 = .ok (.putfield 1, 3) := by decide +kernel
theorem dX12_disturb_5 : decode cX12_disturb 5 = .ok (.aload_n 0, 1) := by decide +kernel
theorem dX12_disturb_6 : decode cX12_disturb 6 = .ok (.iload_n 1, 1) := by decide +kernel
theorem dX12_disturb_7 : decode cX12_disturb 7 = .ok (.invokevirtual 131, 3) := by decide +kernel
theorem dX12_disturb_10 : decode cX12_disturb 10 = .ok (.ifCond .ne 6, 3) := by decide +kernel
theorem dX12_disturb_13 : decode cX12_disturb 13 = .ok (.bipush (-2), 2) := by decide +kernel
theorem dX12_disturb_15 : decode cX12_disturb 15 = .ok (.ireturn, 1) := by decide +kernel
theorem dX12_disturb_16 : decode cX12_disturb 16 = .ok (.iload_n 2, 1) := by decide +kernel
theorem dX12_disturb_17 : decode cX12_disturb 17 = .ok (.i2l, 1) := by decide +kernel
theorem dX12_disturb_18 : decode cX12_disturb 18 = .ok (.lconst 1, 1) := by decide +kernel
theorem dX12_disturb_19 : decode cX12_disturb 19 = .ok (.ldc2_w 136, 3) := by decide +kernel
theorem dX12_disturb_22 : decode cX12_disturb 22 = .ok (.invokestatic 77, 3) := by decide +kernel
theorem dX12_disturb_25 : decode cX12_disturb 25 = .ok (.ifCond .eq 38, 3) := by decide +kernel
theorem dX12_disturb_28 : decode cX12_disturb 28 = .ok (.iload_n 2, 1) := by decide +kernel
theorem dX12_disturb_29 : decode cX12_disturb 29 = .ok (.aload_n 0, 1) := by decide +kernel
theorem dX12_disturb_30 : decode cX12_disturb 30 = .ok (.getfield 64, 3) := by decide +kernel
theorem dX12_disturb_33 : decode cX12_disturb 33 = .ok (.iload_n 1, 1) := by decide +kernel
theorem dX12_disturb_34 : decode cX12_disturb 34 = .ok (.isub, 1) := by decide +kernel
theorem dX12_disturb_35 : decode cX12_disturb 35 = .ok (.if_icmp .gt 28, 3) := by decide +kernel
theorem dX12_disturb_38 : decode cX12_disturb 38 = .ok (.iload_n 3, 1) := by decide +kernel
theorem dX12_disturb_39 : decode cX12_disturb 39 = .ok (.i2l, 1) := by decide +kernel
theorem dX12_disturb_40 : decode cX12_disturb 40 = .ok (.lconst 1, 1) := by decide +kernel
theorem dX12_disturb_41 : decode cX12_disturb 41 = .ok (.ldc2_w 138, 3) := by decide +kernel
theorem dX12_disturb_44 : decode cX12_disturb 44 = .ok (.invokestatic 77, 3) := by decide +kernel
theorem dX12_disturb_47 : decode cX12_disturb 47 = .ok (.ifCond .eq 16, 3) := by decide +kernel
theorem dX12_disturb_50 : decode cX12_disturb 50 = .ok (.iload 4, 2) := by decide +kernel
theorem dX12_disturb_52 : decode cX12_disturb 52 = .ok (.i2l, 1) := by decide +kernel
theorem dX12_disturb_53 : decode cX12_disturb 53 = .ok (.lconst 0, 1) := by decide +kernel
theorem dX12_disturb_54 : decode cX12_disturb 54 = .ok (.ldc2_w 119, 3) := by decide +kernel
theorem dX12_disturb_57 : decode cX12_disturb 57 = .ok (.invokestatic 77, 3) := by decide +kernel
theorem dX12_disturb_60 : decode cX12_disturb 60 = .ok (.ifCond .ne 6, 3) := by decide +kernel
theorem dX12_disturb_63 : decode cX12_disturb 63 = .ok (.bipush (-3), 2) := by decide +kernel
theorem dX12_disturb_65 : decode cX12_disturb 65 = .ok (.ireturn, 1) := by decide +kernel
theorem dX12_disturb_66 : decode cX12_disturb 66 = .ok (.iload_n 1, 1) := by decide +kernel
theorem dX12_disturb_67 : decode cX12_disturb 67 = .ok (.aload_n 0, 1) := by decide +kernel
theorem dX12_disturb_68 : decode cX12_disturb 68 = .ok (.getfield 32, 3) := by decide +kernel
theorem dX12_disturb_71 : decode cX12_disturb 71 = .ok (.iconst 0, 1) := by decide +kernel
theorem dX12_disturb_72 : decode cX12_disturb 72 = .ok (.iaload, 1) := by decide +kernel
theorem dX12_disturb_73 : decode cX12_disturb 73 = .ok (.if_icmp .ge 6, 3) := by decide +kernel
theorem dX12_disturb_76 : decode cX12_disturb 76 = .ok (.bipush (-5), 2) := by decide +kernel
theorem dX12_disturb_78 : decode cX12_disturb 78 = .ok (.ireturn, 1) := by decide +kernel
theorem dX12_disturb_79 : decode cX12_disturb 79 = .ok (.iconst 0, 1) := by decide +kernel
theorem dX12_disturb_80 : decode cX12_disturb 80 = .ok (.istore 5, 2) := by decide +kernel
theorem dX12_disturb_82 : decode cX12_disturb 82 = .ok (.iload 4, 2) := by decide +kernel
theorem dX12_disturb_84 : decode cX12_disturb 84 = .ok (.istore 6, 2) := by decide +kernel
theorem dX12_disturb_86 : decode cX12_disturb 86 = .ok (.iload_n 1, 1) := by decide +kernel
theorem dX12_disturb_87 : decode cX12_disturb 87 = .ok (.istore 7, 2) := by decide +kernel
theorem dX12_disturb_89 : decode cX12_disturb 89 = .ok (.iload 7, 2) := by decide +kernel
theorem dX12_disturb_91 : decode cX12_disturb 91 = .ok (.iload_n 1, 1) := by decide +kernel
theorem dX12_disturb_92 : decode cX12_disturb 92 = .ok (.iload_n 2, 1) := by decide +kernel
theorem dX12_disturb_93 : decode cX12_disturb 93 = .ok (.iadd, 1) := by decide +kernel
theorem dX12_disturb_94 : decode cX12_disturb 94 = .ok (.if_icmp .ge 53, 3) := by decide +kernel
theorem dX12_disturb_97 : decode cX12_disturb 97 = .ok (.iload 6, 2) := by decide +kernel
theorem dX12_disturb_99 : decode cX12_disturb 99 = .ok (.sipush 1103, 3) := by decide +kernel
theorem dX12_disturb_102 : decode cX12_disturb 102 = .ok (.imul, 1) := by decide +kernel
theorem dX12_disturb_103 : decode cX12_disturb 103 = .ok (.sipush 12345, 3) := by decide +kernel
theorem dX12_disturb_106 : decode cX12_disturb 106 = .ok (.iadd, 1) := by decide +kernel
theorem dX12_disturb_107 : decode cX12_disturb 107 = .ok (.ldc 125, 2) := by decide +kernel
theorem dX12_disturb_109 : decode cX12_disturb 109 = .ok (.irem, 1) := by decide +kernel
theorem dX12_disturb_110 : decode cX12_disturb 110 = .ok (.istore 6, 2) := by decide +kernel
theorem dX12_disturb_112 : decode cX12_disturb 112 = .ok (.iload 6, 2) := by decide +kernel
theorem dX12_disturb_114 : decode cX12_disturb 114 = .ok (.iload_n 3, 1) := by decide +kernel
theorem dX12_disturb_115 : decode cX12_disturb 115 = .ok (.irem, 1) := by decide +kernel
theorem dX12_disturb_116 : decode cX12_disturb 116 = .ok (.ifCond .eq 6, 3) := by decide +kernel
theorem dX12_disturb_119 : decode cX12_disturb 119 = .ok (.goto 22, 3) := by decide +kernel
theorem dX12_disturb_122 : decode cX12_disturb 122 = .ok (.aload_n 0, 1) := by decide +kernel
theorem dX12_disturb_123 : decode cX12_disturb 123 = .ok (.getfield 23, 3) := by decide +kernel
theorem dX12_disturb_126 : decode cX12_disturb 126 = .ok (.iload 7, 2) := by decide +kernel
theorem dX12_disturb_128 : decode cX12_disturb 128 = .ok (.iconst 1, 1) := by decide +kernel
theorem dX12_disturb_129 : decode cX12_disturb 129 = .ok (.aload_n 0, 1) := by decide +kernel
theorem dX12_disturb_130 : decode cX12_disturb 130 = .ok (.getfield 23, 3) := by decide +kernel
theorem dX12_disturb_133 : decode cX12_disturb 133 = .ok (.iload 7, 2) := by decide +kernel
theorem dX12_disturb_135 : decode cX12_disturb 135 = .ok (.iaload, 1) := by decide +kernel
theorem dX12_disturb_136 : decode cX12_disturb 136 = .ok (.isub, 1) := by decide +kernel
theorem dX12_disturb_137 : decode cX12_disturb 137 = .ok (.iastore, 1) := by decide +kernel
theorem dX12_disturb_138 : decode cX12_disturb 138 = .ok (.iinc 5 1, 3) := by decide +kernel
theorem dX12_disturb_141 : decode cX12_disturb 141 = .ok (.iinc 7 1, 3) := by decide +kernel
theorem dX12_disturb_144 : decode cX12_disturb 144 = .ok (.goto (-55), 3) := by decide +kernel
theorem dX12_disturb_147 : decode cX12_disturb 147 = .ok (.iload 5, 2) := by decide +kernel
theorem dX12_disturb_149 : decode cX12_disturb 149 = .ok (.ireturn, 1) := by decide +kernel
theorem dX12_bit_0 : decode cX12_bit 0 = .ok (.aload_n 0, 1) := by decide +kernel
theorem dX12_bit_1 : decode cX12_bit 1 = .ok (.iconst 0, 1) := by decide +kernel
theorem dX12_bit_2 : decode cX12_bit 2 = .ok (.putfield 1, 3) := by decide +kernel
theorem dX12_bit_5 : decode cX12_bit 5 = .ok (.aload_n 0, 1) := by decide +kernel
theorem dX12_bit_6 : decode cX12_bit 6 = .ok (.iload_n 1, 1) := by decide +kernel
theorem dX12_bit_7 : decode cX12_bit 7 = .ok (.invokevirtual 131, 3) := by decide +kernel
theorem dX12_bit_10 : decode cX12_bit 10 = .ok (.ifCond .eq 12, 3) := by decide +kernel
theorem dX12_bit_13 : decode cX12_bit 13 = .ok (.aload_n 0, 1) := by decide +kernel
theorem dX12_bit_14 : decode cX12_bit 14 = .ok (.getfield 23, 3) := by decide +kernel
theorem dX12_bit_17 : decode cX12_bit 17 = .ok (.iload_n 1, 1) := by decide +kernel
theorem dX12_bit_18 : decode cX12_bit 18 = .ok (.iaload, 1) := by decide +kernel
theorem dX12_bit_19 : decode cX12_bit 19 = .ok (.goto 4, 3) := by decide +kernel
theorem dX12_bit_22 : decode cX12_bit 22 = .ok (.iconst (-1), 1) := by decide +kernel
theorem dX12_bit_23 : decode cX12_bit 23 = .ok (.ireturn, 1) := by decide +kernel
theorem dX12_empty_0 : decode cX12_empty 0 = .ok (.aload_n 0, 1) := by decide +kernel
theorem dX12_empty_1 : decode cX12_empty 1 = .ok (.iconst 0, 1) := by decide +kernel
theorem dX12_empty_2 : decode cX12_empty 2 = .ok (.putfield 1, 3) := by decide +kernel
theorem dX12_empty_5 : decode cX12_empty 5 = .ok (.aload_n 0, 1) := by decide +kernel
theorem dX12_empty_6 : decode cX12_empty 6 = .ok (.getfield 64, 3) := by decide +kernel
theorem dX12_empty_9 : decode cX12_empty 9 = .ok (.istore_n 1, 1) := by decide +kernel
theorem dX12_empty_10 : decode cX12_empty 10 = .ok (.aload_n 0, 1) := by decide +kernel
theorem dX12_empty_11 : decode cX12_empty 11 = .ok (.iconst 0, 1) := by decide +kernel
theorem dX12_empty_12 : decode cX12_empty 12 = .ok (.putfield 64, 3) := by decide +kernel
theorem dX12_empty_15 : decode cX12_empty 15 = .ok (.aload_n 0, 1) := by decide +kernel
theorem dX12_empty_16 : decode cX12_empty 16 = .ok (.iconst 0, 1) := by decide +kernel
theorem dX12_empty_17 : decode cX12_empty 17 = .ok (.putfield 109, 3) := by decide +kernel
theorem dX12_empty_20 : decode cX12_empty 20 = .ok (.aload_n 0, 1) := by decide +kernel
theorem dX12_empty_21 : decode cX12_empty 21 = .ok (.iconst 0, 1) := by decide +kernel
theorem dX12_empty_22 : decode cX12_empty 22 = .ok (.putfield 103, 3) := by decide +kernel
theorem dX12_empty_25 : decode cX12_empty 25 = .ok (.aload_n 0, 1) := by decide +kernel
theorem dX12_empty_26 : decode cX12_empty 26 = .ok (.iconst 0, 1) := by decide +kernel
theorem dX12_empty_27 : decode cX12_empty 27 = .ok (.putfield 106, 3) := by decide +kernel
theorem dX12_empty_30 : decode cX12_empty 30 = .ok (.aload_n 0, 1) := by decide +kernel
theorem dX12_empty_31 : decode cX12_empty 31 = .ok (.getfield 32, 3) := by decide +kernel
theorem dX12_empty_34 : decode cX12_empty 34 = .ok (.iconst 0, 1) := by decide +kernel
theorem dX12_empty_35 : decode cX12_empty 35 = .ok (.iconst 0, 1) := by decide +kernel
theorem dX12_empty_36 : decode cX12_empty 36 = .ok (.iastore, 1) := by decide +kernel
theorem dX12_empty_37 : decode cX12_empty 37 = .ok (.iload_n 1, 1) := by decide +kernel
theorem dX12_empty_38 : decode cX12_empty 38 = .ok (.ireturn, 1) := by decide +kernel
theorem dX12_terms_0 : decode cX12_terms 0 = .ok (.aload_n 0, 1) := by decide +kernel
theorem dX12_terms_1 : decode cX12_terms 1 = .ok (.iconst 0, 1) := by decide +kernel
theorem dX12_terms_2 : decode cX12_terms 2 = .ok (.putfield 1, 3) := by decide +kernel
theorem dX12_terms_5 : decode cX12_terms 5 = .ok (.iload_n 1, 1) := by decide +kernel
theorem dX12_terms_6 : decode cX12_terms 6 = .ok (.i2l, 1) := by decide +kernel
theorem dX12_terms_7 : decode cX12_terms 7 = .ok (.lconst 0, 1) := by decide +kernel
theorem dX12_terms_8 : decode cX12_terms 8 = .ok (.ldc2_w 140, 3) := by decide +kernel
theorem dX12_terms_11 : decode cX12_terms 11 = .ok (.invokestatic 77, 3) := by decide +kernel
theorem dX12_terms_14 : decode cX12_terms 14 = .ok (.ifCond .ne 6, 3) := by decide +kernel
theorem dX12_terms_17 : decode cX12_terms 17 = .ok (.bipush (-2), 2) := by decide +kernel
theorem dX12_terms_19 : decode cX12_terms 19 = .ok (.ireturn, 1) := by decide +kernel
theorem dX12_terms_20 : decode cX12_terms 20 = .ok (.iload_n 2, 1) := by decide +kernel
theorem dX12_terms_21 : decode cX12_terms 21 = .ok (.i2l, 1) := by decide +kernel
theorem dX12_terms_22 : decode cX12_terms 22 = .ok (.aload_n 0, 1) := by decide +kernel
theorem dX12_terms_23 : decode cX12_terms 23 = .ok (.getfield 17, 3) := by decide +kernel
theorem dX12_terms_26 : decode cX12_terms 26 = .ok (.iload_n 1, 1) := by decide +kernel
theorem dX12_terms_27 : decode cX12_terms 27 = .ok (.iaload, 1) := by decide +kernel
theorem dX12_terms_28 : decode cX12_terms 28 = .ok (.i2l, 1) := by decide +kernel
theorem dX12_terms_29 : decode cX12_terms 29 = .ok (.aload_n 0, 1) := by decide +kernel
theorem dX12_terms_30 : decode cX12_terms 30 = .ok (.getfield 20, 3) := by decide +kernel
theorem dX12_terms_33 : decode cX12_terms 33 = .ok (.iload_n 1, 1) := by decide +kernel
theorem dX12_terms_34 : decode cX12_terms 34 = .ok (.iaload, 1) := by decide +kernel
theorem dX12_terms_35 : decode cX12_terms 35 = .ok (.i2l, 1) := by decide +kernel
theorem dX12_terms_36 : decode cX12_terms 36 = .ok (.invokestatic 77, 3) := by decide +kernel
theorem dX12_terms_39 : decode cX12_terms 39 = .ok (.ifCond .ne 6, 3) := by decide +kernel
theorem dX12_terms_42 : decode cX12_terms 42 = .ok (.bipush (-3), 2) := by decide +kernel
theorem dX12_terms_44 : decode cX12_terms 44 = .ok (.ireturn, 1) := by decide +kernel
theorem dX12_terms_45 : decode cX12_terms 45 = .ok (.iload_n 1, 1) := by decide +kernel
theorem dX12_terms_46 : decode cX12_terms 46 = .ok (.ifCond .ne 32, 3) := by decide +kernel
theorem dX12_terms_49 : decode cX12_terms 49 = .ok (.aload_n 0, 1) := by decide +kernel
theorem dX12_terms_50 : decode cX12_terms 50 = .ok (.getfield 109, 3) := by decide +kernel
theorem dX12_terms_53 : decode cX12_terms 53 = .ok (.ifCond .gt 22, 3) := by decide +kernel
theorem dX12_terms_56 : decode cX12_terms 56 = .ok (.aload_n 0, 1) := by decide +kernel
theorem dX12_terms_57 : decode cX12_terms 57 = .ok (.getfield 32, 3) := by decide +kernel
theorem dX12_terms_60 : decode cX12_terms 60 = .ok (.iconst 1, 1) := by decide +kernel
theorem dX12_terms_61 : decode cX12_terms 61 = .ok (.iaload, 1) := by decide +kernel
theorem dX12_terms_62 : decode cX12_terms 62 = .ok (.ifCond .ne 13, 3) := by decide +kernel
theorem dX12_terms_65 : decode cX12_terms 65 = .ok (.aload_n 0, 1) := by decide +kernel
theorem dX12_terms_66 : decode cX12_terms 66 = .ok (.getfield 32, 3) := by decide +kernel
theorem dX12_terms_69 : decode cX12_terms 69 = .ok (.bipush 16, 2) := by decide +kernel
theorem dX12_terms_71 : decode cX12_terms 71 = .ok (.iaload, 1) := by decide +kernel
theorem dX12_terms_72 : decode cX12_terms 72 = .ok (.ifCond .le 6, 3) := by decide +kernel
theorem dX12_terms_75 : decode cX12_terms 75 = .ok (.bipush (-5), 2) := by decide +kernel
theorem dX12_terms_77 : decode cX12_terms 77 = .ok (.ireturn, 1) := by decide +kernel
theorem dX12_terms_78 : decode cX12_terms 78 = .ok (.aload_n 0, 1) := by decide +kernel
theorem dX12_terms_79 : decode cX12_terms 79 = .ok (.getfield 13, 3) := by decide +kernel
theorem dX12_terms_82 : decode cX12_terms 82 = .ok (.iload_n 1, 1) := by decide +kernel
theorem dX12_terms_83 : decode cX12_terms 83 = .ok (.iaload, 1) := by decide +kernel
theorem dX12_terms_84 : decode cX12_terms 84 = .ok (.istore_n 3, 1) := by decide +kernel
theorem dX12_terms_85 : decode cX12_terms 85 = .ok (.aload_n 0, 1) := by decide +kernel
theorem dX12_terms_86 : decode cX12_terms 86 = .ok (.getfield 13, 3) := by decide +kernel
theorem dX12_terms_89 : decode cX12_terms 89 = .ok (.iload_n 1, 1) := by decide +kernel
theorem dX12_terms_90 : decode cX12_terms 90 = .ok (.iload_n 2, 1) := by decide +kernel
theorem dX12_terms_91 : decode cX12_terms 91 = .ok (.iastore, 1) := by decide +kernel
theorem dX12_terms_92 : decode cX12_terms 92 = .ok (.iload_n 3, 1) := by decide +kernel
theorem dX12_terms_93 : decode cX12_terms 93 = .ok (.ireturn, 1) := by decide +kernel
theorem dX12_counts_0 : decode cX12_counts 0 = .ok (.aload_n 0, 1) := by decide +kernel
theorem dX12_counts_1 : decode cX12_counts 1 = .ok (.getfield 32, 3) := by decide +kernel
theorem dX12_counts_4 : decode cX12_counts 4 = .ok (.bipush 13, 2) := by decide +kernel
theorem dX12_counts_6 : decode cX12_counts 6 = .ok (.iload_n 1, 1) := by decide +kernel
theorem dX12_counts_7 : decode cX12_counts 7 = .ok (.iadd, 1) := by decide +kernel
theorem dX12_counts_8 : decode cX12_counts 8 = .ok (.dup2, 1) := by decide +kernel
theorem dX12_counts_9 : decode cX12_counts 9 = .ok (.iaload, 1) := by decide +kernel
theorem dX12_counts_10 : decode cX12_counts 10 = .ok (.iconst 1, 1) := by decide +kernel
theorem dX12_counts_11 : decode cX12_counts 11 = .ok (.iadd, 1) := by decide +kernel
theorem dX12_counts_12 : decode cX12_counts 12 = .ok (.iastore, 1) := by decide +kernel
theorem dX12_counts_13 : decode cX12_counts 13 = .ok (.return_, 1) := by decide +kernel
theorem dX12_turns_0 : decode cX12_turns 0 = .ok (.sipush 704, 3) := by decide +kernel
theorem dX12_turns_3 : decode cX12_turns 3 = .ok (.iconst 3, 1) := by decide +kernel
theorem dX12_turns_4 : decode cX12_turns 4 = .ok (.aload_n 0, 1) := by decide +kernel
theorem dX12_turns_5 : decode cX12_turns 5 = .ok (.getfield 32, 3) := by decide +kernel
theorem dX12_turns_8 : decode cX12_turns 8 = .ok (.bipush 20, 2) := by decide +kernel
theorem dX12_turns_10 : decode cX12_turns 10 = .ok (.iaload, 1) := by decide +kernel
theorem dX12_turns_11 : decode cX12_turns 11 = .ok (.bipush 24, 2) := by decide +kernel
theorem dX12_turns_13 : decode cX12_turns 13 = .ok (.irem, 1) := by decide +kernel
theorem dX12_turns_14 : decode cX12_turns 14 = .ok (.imul, 1) := by decide +kernel
theorem dX12_turns_15 : decode cX12_turns 15 = .ok (.iadd, 1) := by decide +kernel
theorem dX12_turns_16 : decode cX12_turns 16 = .ok (.istore_n 2, 1) := by decide +kernel
theorem dX12_turns_17 : decode cX12_turns 17 = .ok (.aload_n 0, 1) := by decide +kernel
theorem dX12_turns_18 : decode cX12_turns 18 = .ok (.getfield 32, 3) := by decide +kernel
theorem dX12_turns_21 : decode cX12_turns 21 = .ok (.iload_n 2, 1) := by decide +kernel
theorem dX12_turns_22 : decode cX12_turns 22 = .ok (.aload_n 0, 1) := by decide +kernel
theorem dX12_turns_23 : decode cX12_turns 23 = .ok (.getfield 32, 3) := by decide +kernel
theorem dX12_turns_26 : decode cX12_turns 26 = .ok (.iconst 0, 1) := by decide +kernel
theorem dX12_turns_27 : decode cX12_turns 27 = .ok (.iaload, 1) := by decide +kernel
theorem dX12_turns_28 : decode cX12_turns 28 = .ok (.iastore, 1) := by decide +kernel
theorem dX12_turns_29 : decode cX12_turns 29 = .ok (.aload_n 0, 1) := by decide +kernel
theorem dX12_turns_30 : decode cX12_turns 30 = .ok (.getfield 32, 3) := by decide +kernel
theorem dX12_turns_33 : decode cX12_turns 33 = .ok (.iload_n 2, 1) := by decide +kernel
theorem dX12_turns_34 : decode cX12_turns 34 = .ok (.iconst 1, 1) := by decide +kernel
theorem dX12_turns_35 : decode cX12_turns 35 = .ok (.iadd, 1) := by decide +kernel
theorem dX12_turns_36 : decode cX12_turns 36 = .ok (.aload_n 0, 1) := by decide +kernel
theorem dX12_turns_37 : decode cX12_turns 37 = .ok (.getfield 32, 3) := by decide +kernel
theorem dX12_turns_40 : decode cX12_turns 40 = .ok (.iconst 1, 1) := by decide +kernel
theorem dX12_turns_41 : decode cX12_turns 41 = .ok (.iaload, 1) := by decide +kernel
theorem dX12_turns_42 : decode cX12_turns 42 = .ok (.iastore, 1) := by decide +kernel
theorem dX12_turns_43 : decode cX12_turns 43 = .ok (.aload_n 0, 1) := by decide +kernel
theorem dX12_turns_44 : decode cX12_turns 44 = .ok (.getfield 32, 3) := by decide +kernel
theorem dX12_turns_47 : decode cX12_turns 47 = .ok (.iload_n 2, 1) := by decide +kernel
theorem dX12_turns_48 : decode cX12_turns 48 = .ok (.iconst 2, 1) := by decide +kernel
theorem dX12_turns_49 : decode cX12_turns 49 = .ok (.iadd, 1) := by decide +kernel
theorem dX12_turns_50 : decode cX12_turns 50 = .ok (.iload_n 1, 1) := by decide +kernel
theorem dX12_turns_51 : decode cX12_turns 51 = .ok (.iastore, 1) := by decide +kernel
theorem dX12_turns_52 : decode cX12_turns 52 = .ok (.aload_n 0, 1) := by decide +kernel
theorem dX12_turns_53 : decode cX12_turns 53 = .ok (.bipush 7, 2) := by decide +kernel
theorem dX12_turns_55 : decode cX12_turns 55 = .ok (.invokevirtual 142, 3) := by decide +kernel
theorem dX12_turns_58 : decode cX12_turns 58 = .ok (.iload_n 1, 1) := by decide +kernel
theorem dX12_turns_59 : decode cX12_turns 59 = .ok (.iconst 2, 1) := by decide +kernel
theorem dX12_turns_60 : decode cX12_turns 60 = .ok (.if_icmp .ne 8, 3) := by decide +kernel
theorem dX12_turns_63 : decode cX12_turns 63 = .ok (.aload_n 0, 1) := by decide +kernel
theorem dX12_turns_64 : decode cX12_turns 64 = .ok (.iconst 4, 1) := by decide +kernel
theorem dX12_turns_65 : decode cX12_turns 65 = .ok (.invokevirtual 142, 3) := by decide +kernel
theorem dX12_turns_68 : decode cX12_turns 68 = .ok (.aload_n 0, 1) := by decide +kernel
theorem dX12_turns_69 : decode cX12_turns 69 = .ok (.getfield 32, 3) := by decide +kernel
theorem dX12_turns_72 : decode cX12_turns 72 = .ok (.iconst 1, 1) := by decide +kernel
theorem dX12_turns_73 : decode cX12_turns 73 = .ok (.iaload, 1) := by decide +kernel
theorem dX12_turns_74 : decode cX12_turns 74 = .ok (.iconst 2, 1) := by decide +kernel
theorem dX12_turns_75 : decode cX12_turns 75 = .ok (.if_icmp .ne 8, 3) := by decide +kernel
theorem dX12_turns_78 : decode cX12_turns 78 = .ok (.aload_n 0, 1) := by decide +kernel
theorem dX12_turns_79 : decode cX12_turns 79 = .ok (.iconst 5, 1) := by decide +kernel
theorem dX12_turns_80 : decode cX12_turns 80 = .ok (.invokevirtual 142, 3) := by decide +kernel
theorem dX12_turns_83 : decode cX12_turns 83 = .ok (.aload_n 0, 1) := by decide +kernel
theorem dX12_turns_84 : decode cX12_turns 84 = .ok (.getfield 32, 3) := by decide +kernel
theorem dX12_turns_87 : decode cX12_turns 87 = .ok (.iconst 1, 1) := by decide +kernel
theorem dX12_turns_88 : decode cX12_turns 88 = .ok (.iload_n 1, 1) := by decide +kernel
theorem dX12_turns_89 : decode cX12_turns 89 = .ok (.iastore, 1) := by decide +kernel
theorem dX12_turns_90 : decode cX12_turns 90 = .ok (.aload_n 0, 1) := by decide +kernel
theorem dX12_turns_91 : decode cX12_turns 91 = .ok (.getfield 32, 3) := by decide +kernel
theorem dX12_turns_94 : decode cX12_turns 94 = .ok (.bipush 6, 2) := by decide +kernel
theorem dX12_turns_96 : decode cX12_turns 96 = .ok (.iconst 0, 1) := by decide +kernel
theorem dX12_turns_97 : decode cX12_turns 97 = .ok (.iastore, 1) := by decide +kernel
theorem dX12_turns_98 : decode cX12_turns 98 = .ok (.aload_n 0, 1) := by decide +kernel
theorem dX12_turns_99 : decode cX12_turns 99 = .ok (.getfield 32, 3) := by decide +kernel
theorem dX12_turns_102 : decode cX12_turns 102 = .ok (.bipush 7, 2) := by decide +kernel
theorem dX12_turns_104 : decode cX12_turns 104 = .ok (.iconst 0, 1) := by decide +kernel
theorem dX12_turns_105 : decode cX12_turns 105 = .ok (.iastore, 1) := by decide +kernel
theorem dX12_turns_106 : decode cX12_turns 106 = .ok (.aload_n 0, 1) := by decide +kernel
theorem dX12_turns_107 : decode cX12_turns 107 = .ok (.getfield 32, 3) := by decide +kernel
theorem dX12_turns_110 : decode cX12_turns 110 = .ok (.bipush 8, 2) := by decide +kernel
theorem dX12_turns_112 : decode cX12_turns 112 = .ok (.iconst 0, 1) := by decide +kernel
theorem dX12_turns_113 : decode cX12_turns 113 = .ok (.iastore, 1) := by decide +kernel
theorem dX12_turns_114 : decode cX12_turns 114 = .ok (.aload_n 0, 1) := by decide +kernel
theorem dX12_turns_115 : decode cX12_turns 115 = .ok (.getfield 32, 3) := by decide +kernel
theorem dX12_turns_118 : decode cX12_turns 118 = .ok (.bipush 9, 2) := by decide +kernel
theorem dX12_turns_120 : decode cX12_turns 120 = .ok (.iconst 0, 1) := by decide +kernel
theorem dX12_turns_121 : decode cX12_turns 121 = .ok (.iastore, 1) := by decide +kernel
theorem dX12_turns_122 : decode cX12_turns 122 = .ok (.aload_n 0, 1) := by decide +kernel
theorem dX12_turns_123 : decode cX12_turns 123 = .ok (.getfield 32, 3) := by decide +kernel
theorem dX12_turns_126 : decode cX12_turns 126 = .ok (.sipush 874, 3) := by decide +kernel
theorem dX12_turns_129 : decode cX12_turns 129 = .ok (.iconst 0, 1) := by decide +kernel
theorem dX12_turns_130 : decode cX12_turns 130 = .ok (.iastore, 1) := by decide +kernel
theorem dX12_turns_131 : decode cX12_turns 131 = .ok (.return_, 1) := by decide +kernel
theorem dX12_syndromeNow_0 : decode cX12_syndromeNow 0 = .ok (.aload_n 0, 1) := by decide +kernel
theorem dX12_syndromeNow_1 : decode cX12_syndromeNow 1 = .ok (.getfield 32, 3) := by decide +kernel
theorem dX12_syndromeNow_4 : decode cX12_syndromeNow 4 = .ok (.bipush 27, 2) := by decide +kernel
theorem dX12_syndromeNow_6 : decode cX12_syndromeNow 6 = .ok (.iaload, 1) := by decide +kernel
theorem dX12_syndromeNow_7 : decode cX12_syndromeNow 7 = .ok (.invokestatic 88, 3) := by decide +kernel
theorem dX12_syndromeNow_10 : decode cX12_syndromeNow 10 = .ok (.aload_n 0, 1) := by decide +kernel
theorem dX12_syndromeNow_11 : decode cX12_syndromeNow 11 = .ok (.getfield 32, 3) := by decide +kernel
theorem dX12_syndromeNow_14 : decode cX12_syndromeNow 14 = .ok (.bipush 28, 2) := by decide +kernel
theorem dX12_syndromeNow_16 : decode cX12_syndromeNow 16 = .ok (.iaload, 1) := by decide +kernel
theorem dX12_syndromeNow_17 : decode cX12_syndromeNow 17 = .ok (.ixor, 1) := by decide +kernel
theorem dX12_syndromeNow_18 : decode cX12_syndromeNow 18 = .ok (.ireturn, 1) := by decide +kernel
theorem dX12_takesOne_0 : decode cX12_takesOne 0 = .ok (.aload_n 0, 1) := by decide +kernel
theorem dX12_takesOne_1 : decode cX12_takesOne 1 = .ok (.getfield 23, 3) := by decide +kernel
theorem dX12_takesOne_4 : decode cX12_takesOne 4 = .ok (.aload_n 0, 1) := by decide +kernel
theorem dX12_takesOne_5 : decode cX12_takesOne 5 = .ok (.getfield 32, 3) := by decide +kernel
theorem dX12_takesOne_8 : decode cX12_takesOne 8 = .ok (.iconst 0, 1) := by decide +kernel
theorem dX12_takesOne_9 : decode cX12_takesOne 9 = .ok (.iaload, 1) := by decide +kernel
theorem dX12_takesOne_10 : decode cX12_takesOne 10 = .ok (.iaload, 1) := by decide +kernel
theorem dX12_takesOne_11 : decode cX12_takesOne 11 = .ok (.istore_n 1, 1) := by decide +kernel
theorem dX12_takesOne_12 : decode cX12_takesOne 12 = .ok (.aload_n 0, 1) := by decide +kernel
theorem dX12_takesOne_13 : decode cX12_takesOne 13 = .ok (.getfield 32, 3) := by decide +kernel
theorem dX12_takesOne_16 : decode cX12_takesOne 16 = .ok (.iconst 0, 1) := by decide +kernel
theorem dX12_takesOne_17 : decode cX12_takesOne 17 = .ok (.dup2, 1) := by decide +kernel
theorem dX12_takesOne_18 : decode cX12_takesOne 18 = .ok (.iaload, 1) := by decide +kernel
theorem dX12_takesOne_19 : decode cX12_takesOne 19 = .ok (.iconst 1, 1) := by decide +kernel
theorem dX12_takesOne_20 : decode cX12_takesOne 20 = .ok (.iadd, 1) := by decide +kernel
theorem dX12_takesOne_21 : decode cX12_takesOne 21 = .ok (.iastore, 1) := by decide +kernel
theorem dX12_takesOne_22 : decode cX12_takesOne 22 = .ok (.aload_n 0, 1) := by decide +kernel
theorem dX12_takesOne_23 : decode cX12_takesOne 23 = .ok (.getfield 32, 3) := by decide +kernel
theorem dX12_takesOne_26 : decode cX12_takesOne 26 = .ok (.bipush 27, 2) := by decide +kernel
theorem dX12_takesOne_28 : decode cX12_takesOne 28 = .ok (.aload_n 0, 1) := by decide +kernel
theorem dX12_takesOne_29 : decode cX12_takesOne 29 = .ok (.getfield 32, 3) := by decide +kernel
theorem dX12_takesOne_32 : decode cX12_takesOne 32 = .ok (.bipush 27, 2) := by decide +kernel
theorem dX12_takesOne_34 : decode cX12_takesOne 34 = .ok (.iaload, 1) := by decide +kernel
theorem dX12_takesOne_35 : decode cX12_takesOne 35 = .ok (.iconst 1, 1) := by decide +kernel
theorem dX12_takesOne_36 : decode cX12_takesOne 36 = .ok (.ishl, 1) := by decide +kernel
theorem dX12_takesOne_37 : decode cX12_takesOne 37 = .ok (.aload_n 0, 1) := by decide +kernel
theorem dX12_takesOne_38 : decode cX12_takesOne 38 = .ok (.getfield 32, 3) := by decide +kernel
theorem dX12_takesOne_41 : decode cX12_takesOne 41 = .ok (.bipush 28, 2) := by decide +kernel
theorem dX12_takesOne_43 : decode cX12_takesOne 43 = .ok (.iaload, 1) := by decide +kernel
theorem dX12_takesOne_44 : decode cX12_takesOne 44 = .ok (.bipush 7, 2) := by decide +kernel
theorem dX12_takesOne_46 : decode cX12_takesOne 46 = .ok (.ishr, 1) := by decide +kernel
theorem dX12_takesOne_47 : decode cX12_takesOne 47 = .ok (.ior, 1) := by decide +kernel
theorem dX12_takesOne_48 : decode cX12_takesOne 48 = .ok (.iastore, 1) := by decide +kernel
theorem dX12_takesOne_49 : decode cX12_takesOne 49 = .ok (.aload_n 0, 1) := by decide +kernel
theorem dX12_takesOne_50 : decode cX12_takesOne 50 = .ok (.getfield 32, 3) := by decide +kernel
theorem dX12_takesOne_53 : decode cX12_takesOne 53 = .ok (.bipush 28, 2) := by decide +kernel
theorem dX12_takesOne_55 : decode cX12_takesOne 55 = .ok (.aload_n 0, 1) := by decide +kernel
theorem dX12_takesOne_56 : decode cX12_takesOne 56 = .ok (.getfield 32, 3) := by decide +kernel
theorem dX12_takesOne_59 : decode cX12_takesOne 59 = .ok (.bipush 28, 2) := by decide +kernel
theorem dX12_takesOne_61 : decode cX12_takesOne 61 = .ok (.iaload, 1) := by decide +kernel
theorem dX12_takesOne_62 : decode cX12_takesOne 62 = .ok (.iconst 1, 1) := by decide +kernel
theorem dX12_takesOne_63 : decode cX12_takesOne 63 = .ok (.ishl, 1) := by decide +kernel
theorem dX12_takesOne_64 : decode cX12_takesOne 64 = .ok (.iload_n 1, 1) := by decide +kernel
theorem dX12_takesOne_65 : decode cX12_takesOne 65 = .ok (.ior, 1) := by decide +kernel
theorem dX12_takesOne_66 : decode cX12_takesOne 66 = .ok (.sipush 255, 3) := by decide +kernel
theorem dX12_takesOne_69 : decode cX12_takesOne 69 = .ok (.iand, 1) := by decide +kernel
theorem dX12_takesOne_70 : decode cX12_takesOne 70 = .ok (.iastore, 1) := by decide +kernel
theorem dX12_takesOne_71 : decode cX12_takesOne 71 = .ok (.aload_n 0, 1) := by decide +kernel
theorem dX12_takesOne_72 : decode cX12_takesOne 72 = .ok (.getfield 32, 3) := by decide +kernel
theorem dX12_takesOne_75 : decode cX12_takesOne 75 = .ok (.iconst 5, 1) := by decide +kernel
theorem dX12_takesOne_76 : decode cX12_takesOne 76 = .ok (.dup2, 1) := by decide +kernel
theorem dX12_takesOne_77 : decode cX12_takesOne 77 = .ok (.iaload, 1) := by decide +kernel
theorem dX12_takesOne_78 : decode cX12_takesOne 78 = .ok (.iconst 1, 1) := by decide +kernel
theorem dX12_takesOne_79 : decode cX12_takesOne 79 = .ok (.iadd, 1) := by decide +kernel
theorem dX12_takesOne_80 : decode cX12_takesOne 80 = .ok (.iastore, 1) := by decide +kernel
theorem dX12_takesOne_81 : decode cX12_takesOne 81 = .ok (.aload_n 0, 1) := by decide +kernel
theorem dX12_takesOne_82 : decode cX12_takesOne 82 = .ok (.getfield 32, 3) := by decide +kernel
theorem dX12_takesOne_85 : decode cX12_takesOne 85 = .ok (.iconst 1, 1) := by decide +kernel
theorem dX12_takesOne_86 : decode cX12_takesOne 86 = .ok (.iaload, 1) := by decide +kernel
theorem dX12_takesOne_87 : decode cX12_takesOne 87 = .ok (.istore_n 2, 1) := by decide +kernel
theorem dX12_takesOne_88 : decode cX12_takesOne 88 = .ok (.aload_n 0, 1) := by decide +kernel
theorem dX12_takesOne_89 : decode cX12_takesOne 89 = .ok (.iload_n 2, 1) := by decide +kernel
theorem dX12_takesOne_90 : decode cX12_takesOne 90 = .ok (.ifCond .ne 8, 3) := by decide +kernel
theorem dX12_takesOne_93 : decode cX12_takesOne 93 = .ok (.bipush 6, 2) := by decide +kernel
theorem dX12_takesOne_95 : decode cX12_takesOne 95 = .ok (.goto 15, 3) := by decide +kernel
theorem dX12_takesOne_98 : decode cX12_takesOne 98 = .ok (.iload_n 2, 1) := by decide +kernel
theorem dX12_takesOne_99 : decode cX12_takesOne 99 = .ok (.iconst 1, 1) := by decide +kernel
theorem dX12_takesOne_100 : decode cX12_takesOne 100 = .ok (.if_icmp .ne 8, 3) := by decide +kernel
theorem dX12_takesOne_103 : decode cX12_takesOne 103 = .ok (.bipush 12, 2) := by decide +kernel
theorem dX12_takesOne_105 : decode cX12_takesOne 105 = .ok (.goto 5, 3) := by decide +kernel
theorem dX12_takesOne_108 : decode cX12_takesOne 108 = .ok (.bipush 13, 2) := by decide +kernel
theorem dX12_takesOne_110 : decode cX12_takesOne 110 = .ok (.invokevirtual 142, 3) := by decide +kernel
theorem dX12_takesOne_113 : decode cX12_takesOne 113 = .ok (.iload_n 2, 1) := by decide +kernel
theorem dX12_takesOne_114 : decode cX12_takesOne 114 = .ok (.ifCond .ne 10, 3) := by decide +kernel
theorem dX12_takesOne_117 : decode cX12_takesOne 117 = .ok (.aload_n 0, 1) := by decide +kernel
theorem dX12_takesOne_118 : decode cX12_takesOne 118 = .ok (.invokevirtual 145, 3) := by decide +kernel
theorem dX12_takesOne_121 : decode cX12_takesOne 121 = .ok (.goto 26, 3) := by decide +kernel
theorem dX12_takesOne_124 : decode cX12_takesOne 124 = .ok (.aload_n 0, 1) := by decide +kernel
theorem dX12_takesOne_125 : decode cX12_takesOne 125 = .ok (.getfield 32, 3) := by decide +kernel
theorem dX12_takesOne_128 : decode cX12_takesOne 128 = .ok (.bipush 6, 2) := by decide +kernel
theorem dX12_takesOne_130 : decode cX12_takesOne 130 = .ok (.iaload, 1) := by decide +kernel
theorem dX12_takesOne_131 : decode cX12_takesOne 131 = .ok (.iconst 1, 1) := by decide +kernel
theorem dX12_takesOne_132 : decode cX12_takesOne 132 = .ok (.if_icmp .ne 10, 3) := by decide +kernel
theorem dX12_takesOne_135 : decode cX12_takesOne 135 = .ok (.aload_n 0, 1) := by decide +kernel
theorem dX12_takesOne_136 : decode cX12_takesOne 136 = .ok (.invokevirtual 148, 3) := by decide +kernel
theorem dX12_takesOne_139 : decode cX12_takesOne 139 = .ok (.goto 8, 3) := by decide +kernel
theorem dX12_takesOne_142 : decode cX12_takesOne 142 = .ok (.aload_n 0, 1) := by decide +kernel
theorem dX12_takesOne_143 : decode cX12_takesOne 143 = .ok (.iload_n 1, 1) := by decide +kernel
theorem dX12_takesOne_144 : decode cX12_takesOne 144 = .ok (.invokevirtual 151, 3) := by decide +kernel
theorem dX12_takesOne_147 : decode cX12_takesOne 147 = .ok (.aload_n 0, 1) := by decide +kernel
theorem dX12_takesOne_148 : decode cX12_takesOne 148 = .ok (.getfield 32, 3) := by decide +kernel
theorem dX12_takesOne_151 : decode cX12_takesOne 151 = .ok (.iconst 1, 1) := by decide +kernel
theorem dX12_takesOne_152 : decode cX12_takesOne 152 = .ok (.iaload, 1) := by decide +kernel
theorem dX12_takesOne_153 : decode cX12_takesOne 153 = .ok (.iconst 2, 1) := by decide +kernel
theorem dX12_takesOne_154 : decode cX12_takesOne 154 = .ok (.if_icmp .ne 7, 3) := by decide +kernel
theorem dX12_takesOne_157 : decode cX12_takesOne 157 = .ok (.iconst 1, 1) := by decide +kernel
theorem dX12_takesOne_158 : decode cX12_takesOne 158 = .ok (.goto 4, 3) := by decide +kernel
theorem dX12_takesOne_161 : decode cX12_takesOne 161 = .ok (.iconst 0, 1) := by decide +kernel
theorem dX12_takesOne_162 : decode cX12_takesOne 162 = .ok (.istore_n 3, 1) := by decide +kernel
theorem dX12_takesOne_163 : decode cX12_takesOne 163 = .ok (.aload_n 0, 1) := by decide +kernel
theorem dX12_takesOne_164 : decode cX12_takesOne 164 = .ok (.getfield 32, 3) := by decide +kernel
theorem dX12_takesOne_167 : decode cX12_takesOne 167 = .ok (.sipush 872, 3) := by decide +kernel
theorem dX12_takesOne_170 : decode cX12_takesOne 170 = .ok (.iload_n 3, 1) := by decide +kernel
theorem dX12_takesOne_171 : decode cX12_takesOne 171 = .ok (.iload_n 2, 1) := by decide +kernel
theorem dX12_takesOne_172 : decode cX12_takesOne 172 = .ok (.iconst 2, 1) := by decide +kernel
theorem dX12_takesOne_173 : decode cX12_takesOne 173 = .ok (.if_icmp .ne 7, 3) := by decide +kernel
theorem dX12_takesOne_176 : decode cX12_takesOne 176 = .ok (.iconst 1, 1) := by decide +kernel
theorem dX12_takesOne_177 : decode cX12_takesOne 177 = .ok (.goto 4, 3) := by decide +kernel
theorem dX12_takesOne_180 : decode cX12_takesOne 180 = .ok (.iconst 0, 1) := by decide +kernel
theorem dX12_takesOne_181 : decode cX12_takesOne 181 = .ok (.if_icmp .ne 16, 3) := by decide +kernel
theorem dX12_takesOne_184 : decode cX12_takesOne 184 = .ok (.aload_n 0, 1) := by decide +kernel
theorem dX12_takesOne_185 : decode cX12_takesOne 185 = .ok (.getfield 32, 3) := by decide +kernel
theorem dX12_takesOne_188 : decode cX12_takesOne 188 = .ok (.sipush 872, 3) := by decide +kernel
theorem dX12_takesOne_191 : decode cX12_takesOne 191 = .ok (.iaload, 1) := by decide +kernel
theorem dX12_takesOne_192 : decode cX12_takesOne 192 = .ok (.iconst 1, 1) := by decide +kernel
theorem dX12_takesOne_193 : decode cX12_takesOne 193 = .ok (.iadd, 1) := by decide +kernel
theorem dX12_takesOne_194 : decode cX12_takesOne 194 = .ok (.goto 4, 3) := by decide +kernel
theorem dX12_takesOne_197 : decode cX12_takesOne 197 = .ok (.iconst 1, 1) := by decide +kernel
theorem dX12_takesOne_198 : decode cX12_takesOne 198 = .ok (.iastore, 1) := by decide +kernel
theorem dX12_takesOne_199 : decode cX12_takesOne 199 = .ok (.aload_n 0, 1) := by decide +kernel
theorem dX12_takesOne_200 : decode cX12_takesOne 200 = .ok (.getfield 32, 3) := by decide +kernel
theorem dX12_takesOne_203 : decode cX12_takesOne 203 = .ok (.sipush 872, 3) := by decide +kernel
theorem dX12_takesOne_206 : decode cX12_takesOne 206 = .ok (.iaload, 1) := by decide +kernel
theorem dX12_takesOne_207 : decode cX12_takesOne 207 = .ok (.aload_n 0, 1) := by decide +kernel
theorem dX12_takesOne_208 : decode cX12_takesOne 208 = .ok (.getfield 13, 3) := by decide +kernel
theorem dX12_takesOne_211 : decode cX12_takesOne 211 = .ok (.iconst 4, 1) := by decide +kernel
theorem dX12_takesOne_212 : decode cX12_takesOne 212 = .ok (.iaload, 1) := by decide +kernel
theorem dX12_takesOne_213 : decode cX12_takesOne 213 = .ok (.if_icmp .ge 4, 3) := by decide +kernel
theorem dX12_takesOne_216 : decode cX12_takesOne 216 = .ok (.return_, 1) := by decide +kernel
theorem dX12_takesOne_217 : decode cX12_takesOne 217 = .ok (.iload_n 3, 1) := by decide +kernel
theorem dX12_takesOne_218 : decode cX12_takesOne 218 = .ok (.ifCond .ne 20, 3) := by decide +kernel
theorem dX12_takesOne_221 : decode cX12_takesOne 221 = .ok (.aload_n 0, 1) := by decide +kernel
theorem dX12_takesOne_222 : decode cX12_takesOne 222 = .ok (.getfield 32, 3) := by decide +kernel
theorem dX12_takesOne_225 : decode cX12_takesOne 225 = .ok (.sipush 873, 3) := by decide +kernel
theorem dX12_takesOne_228 : decode cX12_takesOne 228 = .ok (.iaload, 1) := by decide +kernel
theorem dX12_takesOne_229 : decode cX12_takesOne 229 = .ok (.ifCond .ne 9, 3) := by decide +kernel
theorem dX12_takesOne_232 : decode cX12_takesOne 232 = .ok (.aload_n 0, 1) := by decide +kernel
theorem dX12_takesOne_233 : decode cX12_takesOne 233 = .ok (.bipush 11, 2) := by decide +kernel
theorem dX12_takesOne_235 : decode cX12_takesOne 235 = .ok (.invokevirtual 142, 3) := by decide +kernel
theorem dX12_takesOne_238 : decode cX12_takesOne 238 = .ok (.aload_n 0, 1) := by decide +kernel
theorem dX12_takesOne_239 : decode cX12_takesOne 239 = .ok (.getfield 32, 3) := by decide +kernel
theorem dX12_takesOne_242 : decode cX12_takesOne 242 = .ok (.sipush 873, 3) := by decide +kernel
theorem dX12_takesOne_245 : decode cX12_takesOne 245 = .ok (.iload_n 3, 1) := by decide +kernel
theorem dX12_takesOne_246 : decode cX12_takesOne 246 = .ok (.ifCond .eq 7, 3) := by decide +kernel
theorem dX12_takesOne_249 : decode cX12_takesOne 249 = .ok (.iconst 0, 1) := by decide +kernel
theorem dX12_takesOne_250 : decode cX12_takesOne 250 = .ok (.goto 4, 3) := by decide +kernel
theorem dX12_takesOne_253 : decode cX12_takesOne 253 = .ok (.iconst 1, 1) := by decide +kernel
theorem dX12_takesOne_254 : decode cX12_takesOne 254 = .ok (.iastore, 1) := by decide +kernel
theorem dX12_takesOne_255 : decode cX12_takesOne 255 = .ok (.return_, 1) := by decide +kernel
theorem dX12_hunts_0 : decode cX12_hunts 0 = .ok (.aload_n 0, 1) := by decide +kernel
theorem dX12_hunts_1 : decode cX12_hunts 1 = .ok (.getfield 32, 3) := by decide +kernel
theorem dX12_hunts_4 : decode cX12_hunts 4 = .ok (.sipush 874, 3) := by decide +kernel
theorem dX12_hunts_7 : decode cX12_hunts 7 = .ok (.dup2, 1) := by decide +kernel
theorem dX12_hunts_8 : decode cX12_hunts 8 = .ok (.iaload, 1) := by decide +kernel
theorem dX12_hunts_9 : decode cX12_hunts 9 = .ok (.iconst 1, 1) := by decide +kernel
theorem dX12_hunts_10 : decode cX12_hunts 10 = .ok (.iadd, 1) := by decide +kernel
theorem dX12_hunts_11 : decode cX12_hunts 11 = .ok (.iastore, 1) := by decide +kernel
theorem dX12_hunts_12 : decode cX12_hunts 12 = .ok (.aload_n 0, 1) := by decide +kernel
theorem dX12_hunts_13 : decode cX12_hunts 13 = .ok (.getfield 32, 3) := by decide +kernel
theorem dX12_hunts_16 : decode cX12_hunts 16 = .ok (.sipush 874, 3) := by decide +kernel
theorem dX12_hunts_19 : decode cX12_hunts 19 = .ok (.iaload, 1) := by decide +kernel
theorem dX12_hunts_20 : decode cX12_hunts 20 = .ok (.aload_n 0, 1) := by decide +kernel
theorem dX12_hunts_21 : decode cX12_hunts 21 = .ok (.getfield 13, 3) := by decide +kernel
theorem dX12_hunts_24 : decode cX12_hunts 24 = .ok (.bipush 6, 2) := by decide +kernel
theorem dX12_hunts_26 : decode cX12_hunts 26 = .ok (.iaload, 1) := by decide +kernel
theorem dX12_hunts_27 : decode cX12_hunts 27 = .ok (.irem, 1) := by decide +kernel
theorem dX12_hunts_28 : decode cX12_hunts 28 = .ok (.ifCond .ne 21, 3) := by decide +kernel
theorem dX12_hunts_31 : decode cX12_hunts 31 = .ok (.aload_n 0, 1) := by decide +kernel
theorem dX12_hunts_32 : decode cX12_hunts 32 = .ok (.getfield 32, 3) := by decide +kernel
theorem dX12_hunts_35 : decode cX12_hunts 35 = .ok (.iconst 5, 1) := by decide +kernel
theorem dX12_hunts_36 : decode cX12_hunts 36 = .ok (.iaload, 1) := by decide +kernel
theorem dX12_hunts_37 : decode cX12_hunts 37 = .ok (.bipush 40, 2) := by decide +kernel
theorem dX12_hunts_39 : decode cX12_hunts 39 = .ok (.if_icmp .lt 10, 3) := by decide +kernel
theorem dX12_hunts_42 : decode cX12_hunts 42 = .ok (.aload_n 0, 1) := by decide +kernel
theorem dX12_hunts_43 : decode cX12_hunts 43 = .ok (.invokevirtual 154, 3) := by decide +kernel
theorem dX12_hunts_46 : decode cX12_hunts 46 = .ok (.ifCond .eq 4, 3) := by decide +kernel
theorem dX12_hunts_49 : decode cX12_hunts 49 = .ok (.return_, 1) := by decide +kernel
theorem dX12_hunts_50 : decode cX12_hunts 50 = .ok (.aload_n 0, 1) := by decide +kernel
theorem dX12_hunts_51 : decode cX12_hunts 51 = .ok (.iconst 1, 1) := by decide +kernel
theorem dX12_hunts_52 : decode cX12_hunts 52 = .ok (.invokevirtual 157, 3) := by decide +kernel
theorem dX12_hunts_55 : decode cX12_hunts 55 = .ok (.aload_n 0, 1) := by decide +kernel
theorem dX12_hunts_56 : decode cX12_hunts 56 = .ok (.getfield 32, 3) := by decide +kernel
theorem dX12_hunts_59 : decode cX12_hunts 59 = .ok (.iconst 2, 1) := by decide +kernel
theorem dX12_hunts_60 : decode cX12_hunts 60 = .ok (.iconst 0, 1) := by decide +kernel
theorem dX12_hunts_61 : decode cX12_hunts 61 = .ok (.iastore, 1) := by decide +kernel
theorem dX12_hunts_62 : decode cX12_hunts 62 = .ok (.return_, 1) := by decide +kernel
theorem dX12_takesLoad_0 : decode cX12_takesLoad 0 = .ok (.iload_n 1, 1) := by decide +kernel
theorem dX12_takesLoad_1 : decode cX12_takesLoad 1 = .ok (.aload_n 0, 1) := by decide +kernel
theorem dX12_takesLoad_2 : decode cX12_takesLoad 2 = .ok (.getfield 32, 3) := by decide +kernel
theorem dX12_takesLoad_5 : decode cX12_takesLoad 5 = .ok (.bipush 29, 2) := by decide +kernel
theorem dX12_takesLoad_7 : decode cX12_takesLoad 7 = .ok (.iaload, 1) := by decide +kernel
theorem dX12_takesLoad_8 : decode cX12_takesLoad 8 = .ok (.bipush 10, 2) := by decide +kernel
theorem dX12_takesLoad_10 : decode cX12_takesLoad 10 = .ok (.ishr, 1) := by decide +kernel
theorem dX12_takesLoad_11 : decode cX12_takesLoad 11 = .ok (.iconst 1, 1) := by decide +kernel
theorem dX12_takesLoad_12 : decode cX12_takesLoad 12 = .ok (.iand, 1) := by decide +kernel
theorem dX12_takesLoad_13 : decode cX12_takesLoad 13 = .ok (.ixor, 1) := by decide +kernel
theorem dX12_takesLoad_14 : decode cX12_takesLoad 14 = .ok (.istore_n 2, 1) := by decide +kernel
theorem dX12_takesLoad_15 : decode cX12_takesLoad 15 = .ok (.aload_n 0, 1) := by decide +kernel
theorem dX12_takesLoad_16 : decode cX12_takesLoad 16 = .ok (.getfield 160, 3) := by decide +kernel
theorem dX12_takesLoad_19 : decode cX12_takesLoad 19 = .ok (.iconst 1, 1) := by decide +kernel
theorem dX12_takesLoad_20 : decode cX12_takesLoad 20 = .ok (.if_icmp .ne 19, 3) := by decide +kernel
theorem dX12_takesLoad_23 : decode cX12_takesLoad 23 = .ok (.aload_n 0, 1) := by decide +kernel
theorem dX12_takesLoad_24 : decode cX12_takesLoad 24 = .ok (.getfield 38, 3) := by decide +kernel
theorem dX12_takesLoad_27 : decode cX12_takesLoad 27 = .ok (.aload_n 0, 1) := by decide +kernel
theorem dX12_takesLoad_28 : decode cX12_takesLoad 28 = .ok (.getfield 32, 3) := by decide +kernel
theorem dX12_takesLoad_31 : decode cX12_takesLoad 31 = .ok (.iconst 0, 1) := by decide +kernel
theorem dX12_takesLoad_32 : decode cX12_takesLoad 32 = .ok (.iaload, 1) := by decide +kernel
theorem dX12_takesLoad_33 : decode cX12_takesLoad 33 = .ok (.iconst 1, 1) := by decide +kernel
theorem dX12_takesLoad_34 : decode cX12_takesLoad 34 = .ok (.isub, 1) := by decide +kernel
theorem dX12_takesLoad_35 : decode cX12_takesLoad 35 = .ok (.iload_n 2, 1) := by decide +kernel
theorem dX12_takesLoad_36 : decode cX12_takesLoad 36 = .ok (.iconst 1, 1) := by decide +kernel
theorem dX12_takesLoad_37 : decode cX12_takesLoad 37 = .ok (.iadd, 1) := by decide +kernel
theorem dX12_takesLoad_38 : decode cX12_takesLoad 38 = .ok (.iastore, 1) := by decide +kernel
theorem dX12_takesLoad_39 : decode cX12_takesLoad 39 = .ok (.aload_n 0, 1) := by decide +kernel
theorem dX12_takesLoad_40 : decode cX12_takesLoad 40 = .ok (.getfield 160, 3) := by decide +kernel
theorem dX12_takesLoad_43 : decode cX12_takesLoad 43 = .ok (.iconst 2, 1) := by decide +kernel
theorem dX12_takesLoad_44 : decode cX12_takesLoad 44 = .ok (.if_icmp .ne 19, 3) := by decide +kernel
theorem dX12_takesLoad_47 : decode cX12_takesLoad 47 = .ok (.aload_n 0, 1) := by decide +kernel
theorem dX12_takesLoad_48 : decode cX12_takesLoad 48 = .ok (.getfield 41, 3) := by decide +kernel
theorem dX12_takesLoad_51 : decode cX12_takesLoad 51 = .ok (.aload_n 0, 1) := by decide +kernel
theorem dX12_takesLoad_52 : decode cX12_takesLoad 52 = .ok (.getfield 32, 3) := by decide +kernel
theorem dX12_takesLoad_55 : decode cX12_takesLoad 55 = .ok (.iconst 0, 1) := by decide +kernel
theorem dX12_takesLoad_56 : decode cX12_takesLoad 56 = .ok (.iaload, 1) := by decide +kernel
theorem dX12_takesLoad_57 : decode cX12_takesLoad 57 = .ok (.iconst 1, 1) := by decide +kernel
theorem dX12_takesLoad_58 : decode cX12_takesLoad 58 = .ok (.isub, 1) := by decide +kernel
theorem dX12_takesLoad_59 : decode cX12_takesLoad 59 = .ok (.iload_n 2, 1) := by decide +kernel
theorem dX12_takesLoad_60 : decode cX12_takesLoad 60 = .ok (.iconst 1, 1) := by decide +kernel
theorem dX12_takesLoad_61 : decode cX12_takesLoad 61 = .ok (.iadd, 1) := by decide +kernel
theorem dX12_takesLoad_62 : decode cX12_takesLoad 62 = .ok (.iastore, 1) := by decide +kernel
theorem dX12_takesLoad_63 : decode cX12_takesLoad 63 = .ok (.aload_n 0, 1) := by decide +kernel
theorem dX12_takesLoad_64 : decode cX12_takesLoad 64 = .ok (.getfield 32, 3) := by decide +kernel
theorem dX12_takesLoad_67 : decode cX12_takesLoad 67 = .ok (.bipush 29, 2) := by decide +kernel
theorem dX12_takesLoad_69 : decode cX12_takesLoad 69 = .ok (.aload_n 0, 1) := by decide +kernel
theorem dX12_takesLoad_70 : decode cX12_takesLoad 70 = .ok (.getfield 32, 3) := by decide +kernel
theorem dX12_takesLoad_73 : decode cX12_takesLoad 73 = .ok (.bipush 29, 2) := by decide +kernel
theorem dX12_takesLoad_75 : decode cX12_takesLoad 75 = .ok (.iaload, 1) := by decide +kernel
theorem dX12_takesLoad_76 : decode cX12_takesLoad 76 = .ok (.iconst 1, 1) := by decide +kernel
theorem dX12_takesLoad_77 : decode cX12_takesLoad 77 = .ok (.ishl, 1) := by decide +kernel
theorem dX12_takesLoad_78 : decode cX12_takesLoad 78 = .ok (.aload_n 0, 1) := by decide +kernel
theorem dX12_takesLoad_79 : decode cX12_takesLoad 79 = .ok (.getfield 32, 3) := by decide +kernel
theorem dX12_takesLoad_82 : decode cX12_takesLoad 82 = .ok (.bipush 30, 2) := by decide +kernel
theorem dX12_takesLoad_84 : decode cX12_takesLoad 84 = .ok (.iaload, 1) := by decide +kernel
theorem dX12_takesLoad_85 : decode cX12_takesLoad 85 = .ok (.bipush 31, 2) := by decide +kernel
theorem dX12_takesLoad_87 : decode cX12_takesLoad 87 = .ok (.iushr, 1) := by decide +kernel
theorem dX12_takesLoad_88 : decode cX12_takesLoad 88 = .ok (.ior, 1) := by decide +kernel
theorem dX12_takesLoad_89 : decode cX12_takesLoad 89 = .ok (.sipush 2047, 3) := by decide +kernel
theorem dX12_takesLoad_92 : decode cX12_takesLoad 92 = .ok (.iand, 1) := by decide +kernel
theorem dX12_takesLoad_93 : decode cX12_takesLoad 93 = .ok (.iastore, 1) := by decide +kernel
theorem dX12_takesLoad_94 : decode cX12_takesLoad 94 = .ok (.aload_n 0, 1) := by decide +kernel
theorem dX12_takesLoad_95 : decode cX12_takesLoad 95 = .ok (.getfield 32, 3) := by decide +kernel
theorem dX12_takesLoad_98 : decode cX12_takesLoad 98 = .ok (.bipush 30, 2) := by decide +kernel
theorem dX12_takesLoad_100 : decode cX12_takesLoad 100 = .ok (.aload_n 0, 1) := by decide +kernel
theorem dX12_takesLoad_101 : decode cX12_takesLoad 101 = .ok (.getfield 32, 3) := by decide +kernel
theorem dX12_takesLoad_104 : decode cX12_takesLoad 104 = .ok (.bipush 30, 2) := by decide +kernel
theorem dX12_takesLoad_106 : decode cX12_takesLoad 106 = .ok (.iaload, 1) := by decide +kernel
theorem dX12_takesLoad_107 : decode cX12_takesLoad 107 = .ok (.iconst 1, 1) := by decide +kernel
theorem dX12_takesLoad_108 : decode cX12_takesLoad 108 = .ok (.ishl, 1) := by decide +kernel
theorem dX12_takesLoad_109 : decode cX12_takesLoad 109 = .ok (.iload_n 1, 1) := by decide +kernel
theorem dX12_takesLoad_110 : decode cX12_takesLoad 110 = .ok (.ior, 1) := by decide +kernel
theorem dX12_takesLoad_111 : decode cX12_takesLoad 111 = .ok (.iastore, 1) := by decide +kernel
theorem dX12_takesLoad_112 : decode cX12_takesLoad 112 = .ok (.aload_n 0, 1) := by decide +kernel
theorem dX12_takesLoad_113 : decode cX12_takesLoad 113 = .ok (.getfield 32, 3) := by decide +kernel
theorem dX12_takesLoad_116 : decode cX12_takesLoad 116 = .ok (.bipush 31, 2) := by decide +kernel
theorem dX12_takesLoad_118 : decode cX12_takesLoad 118 = .ok (.aload_n 0, 1) := by decide +kernel
theorem dX12_takesLoad_119 : decode cX12_takesLoad 119 = .ok (.getfield 32, 3) := by decide +kernel
theorem dX12_takesLoad_122 : decode cX12_takesLoad 122 = .ok (.bipush 31, 2) := by decide +kernel
theorem dX12_takesLoad_124 : decode cX12_takesLoad 124 = .ok (.iaload, 1) := by decide +kernel
theorem dX12_takesLoad_125 : decode cX12_takesLoad 125 = .ok (.iconst 1, 1) := by decide +kernel
theorem dX12_takesLoad_126 : decode cX12_takesLoad 126 = .ok (.ishl, 1) := by decide +kernel
theorem dX12_takesLoad_127 : decode cX12_takesLoad 127 = .ok (.iload_n 2, 1) := by decide +kernel
theorem dX12_takesLoad_128 : decode cX12_takesLoad 128 = .ok (.ior, 1) := by decide +kernel
theorem dX12_takesLoad_129 : decode cX12_takesLoad 129 = .ok (.sipush 255, 3) := by decide +kernel
theorem dX12_takesLoad_132 : decode cX12_takesLoad 132 = .ok (.iand, 1) := by decide +kernel
theorem dX12_takesLoad_133 : decode cX12_takesLoad 133 = .ok (.iastore, 1) := by decide +kernel
theorem dX12_takesLoad_134 : decode cX12_takesLoad 134 = .ok (.aload_n 0, 1) := by decide +kernel
theorem dX12_takesLoad_135 : decode cX12_takesLoad 135 = .ok (.getfield 32, 3) := by decide +kernel
theorem dX12_takesLoad_138 : decode cX12_takesLoad 138 = .ok (.bipush 7, 2) := by decide +kernel
theorem dX12_takesLoad_140 : decode cX12_takesLoad 140 = .ok (.dup2, 1) := by decide +kernel
theorem dX12_takesLoad_141 : decode cX12_takesLoad 141 = .ok (.iaload, 1) := by decide +kernel
theorem dX12_takesLoad_142 : decode cX12_takesLoad 142 = .ok (.iconst 1, 1) := by decide +kernel
theorem dX12_takesLoad_143 : decode cX12_takesLoad 143 = .ok (.iadd, 1) := by decide +kernel
theorem dX12_takesLoad_144 : decode cX12_takesLoad 144 = .ok (.iastore, 1) := by decide +kernel
theorem dX12_takesLoad_145 : decode cX12_takesLoad 145 = .ok (.aload_n 0, 1) := by decide +kernel
theorem dX12_takesLoad_146 : decode cX12_takesLoad 146 = .ok (.getfield 32, 3) := by decide +kernel
theorem dX12_takesLoad_149 : decode cX12_takesLoad 149 = .ok (.bipush 7, 2) := by decide +kernel
theorem dX12_takesLoad_151 : decode cX12_takesLoad 151 = .ok (.iaload, 1) := by decide +kernel
theorem dX12_takesLoad_152 : decode cX12_takesLoad 152 = .ok (.bipush 8, 2) := by decide +kernel
theorem dX12_takesLoad_154 : decode cX12_takesLoad 154 = .ok (.irem, 1) := by decide +kernel
theorem dX12_takesLoad_155 : decode cX12_takesLoad 155 = .ok (.ifCond .ne 30, 3) := by decide +kernel
theorem dX12_takesLoad_158 : decode cX12_takesLoad 158 = .ok (.aload_n 0, 1) := by decide +kernel
theorem dX12_takesLoad_159 : decode cX12_takesLoad 159 = .ok (.getfield 32, 3) := by decide +kernel
theorem dX12_takesLoad_162 : decode cX12_takesLoad 162 = .ok (.bipush 32, 2) := by decide +kernel
theorem dX12_takesLoad_164 : decode cX12_takesLoad 164 = .ok (.aload_n 0, 1) := by decide +kernel
theorem dX12_takesLoad_165 : decode cX12_takesLoad 165 = .ok (.getfield 32, 3) := by decide +kernel
theorem dX12_takesLoad_168 : decode cX12_takesLoad 168 = .ok (.bipush 7, 2) := by decide +kernel
theorem dX12_takesLoad_170 : decode cX12_takesLoad 170 = .ok (.iaload, 1) := by decide +kernel
theorem dX12_takesLoad_171 : decode cX12_takesLoad 171 = .ok (.bipush 8, 2) := by decide +kernel
theorem dX12_takesLoad_173 : decode cX12_takesLoad 173 = .ok (.idiv, 1) := by decide +kernel
theorem dX12_takesLoad_174 : decode cX12_takesLoad 174 = .ok (.iadd, 1) := by decide +kernel
theorem dX12_takesLoad_175 : decode cX12_takesLoad 175 = .ok (.iconst 1, 1) := by decide +kernel
theorem dX12_takesLoad_176 : decode cX12_takesLoad 176 = .ok (.isub, 1) := by decide +kernel
theorem dX12_takesLoad_177 : decode cX12_takesLoad 177 = .ok (.aload_n 0, 1) := by decide +kernel
theorem dX12_takesLoad_178 : decode cX12_takesLoad 178 = .ok (.getfield 32, 3) := by decide +kernel
theorem dX12_takesLoad_181 : decode cX12_takesLoad 181 = .ok (.bipush 31, 2) := by decide +kernel
theorem dX12_takesLoad_183 : decode cX12_takesLoad 183 = .ok (.iaload, 1) := by decide +kernel
theorem dX12_takesLoad_184 : decode cX12_takesLoad 184 = .ok (.iastore, 1) := by decide +kernel
theorem dX12_takesLoad_185 : decode cX12_takesLoad 185 = .ok (.aload_n 0, 1) := by decide +kernel
theorem dX12_takesLoad_186 : decode cX12_takesLoad 186 = .ok (.getfield 32, 3) := by decide +kernel
theorem dX12_takesLoad_189 : decode cX12_takesLoad 189 = .ok (.bipush 7, 2) := by decide +kernel
theorem dX12_takesLoad_191 : decode cX12_takesLoad 191 = .ok (.iaload, 1) := by decide +kernel
theorem dX12_takesLoad_192 : decode cX12_takesLoad 192 = .ok (.bipush 8, 2) := by decide +kernel
theorem dX12_takesLoad_194 : decode cX12_takesLoad 194 = .ok (.aload_n 0, 1) := by decide +kernel
theorem dX12_takesLoad_195 : decode cX12_takesLoad 195 = .ok (.getfield 13, 3) := by decide +kernel
theorem dX12_takesLoad_198 : decode cX12_takesLoad 198 = .ok (.iconst 0, 1) := by decide +kernel
theorem dX12_takesLoad_199 : decode cX12_takesLoad 199 = .ok (.iaload, 1) := by decide +kernel
theorem dX12_takesLoad_200 : decode cX12_takesLoad 200 = .ok (.imul, 1) := by decide +kernel
theorem dX12_takesLoad_201 : decode cX12_takesLoad 201 = .ok (.if_icmp .ge 4, 3) := by decide +kernel
theorem dX12_takesLoad_204 : decode cX12_takesLoad 204 = .ok (.return_, 1) := by decide +kernel
theorem dX12_takesLoad_205 : decode cX12_takesLoad 205 = .ok (.aload_n 0, 1) := by decide +kernel
theorem dX12_takesLoad_206 : decode cX12_takesLoad 206 = .ok (.getfield 32, 3) := by decide +kernel
theorem dX12_takesLoad_209 : decode cX12_takesLoad 209 = .ok (.bipush 7, 2) := by decide +kernel
theorem dX12_takesLoad_211 : decode cX12_takesLoad 211 = .ok (.iconst 0, 1) := by decide +kernel
theorem dX12_takesLoad_212 : decode cX12_takesLoad 212 = .ok (.iastore, 1) := by decide +kernel
theorem dX12_takesLoad_213 : decode cX12_takesLoad 213 = .ok (.aload_n 0, 1) := by decide +kernel
theorem dX12_takesLoad_214 : decode cX12_takesLoad 214 = .ok (.getfield 32, 3) := by decide +kernel
theorem dX12_takesLoad_217 : decode cX12_takesLoad 217 = .ok (.bipush 6, 2) := by decide +kernel
theorem dX12_takesLoad_219 : decode cX12_takesLoad 219 = .ok (.iconst 1, 1) := by decide +kernel
theorem dX12_takesLoad_220 : decode cX12_takesLoad 220 = .ok (.iastore, 1) := by decide +kernel
theorem dX12_takesLoad_221 : decode cX12_takesLoad 221 = .ok (.aload_n 0, 1) := by decide +kernel
theorem dX12_takesLoad_222 : decode cX12_takesLoad 222 = .ok (.getfield 32, 3) := by decide +kernel
theorem dX12_takesLoad_225 : decode cX12_takesLoad 225 = .ok (.bipush 9, 2) := by decide +kernel
theorem dX12_takesLoad_227 : decode cX12_takesLoad 227 = .ok (.iaload, 1) := by decide +kernel
theorem dX12_takesLoad_228 : decode cX12_takesLoad 228 = .ok (.ifCond .ne 4, 3) := by decide +kernel
theorem dX12_takesLoad_231 : decode cX12_takesLoad 231 = .ok (.return_, 1) := by decide +kernel
theorem dX12_takesLoad_232 : decode cX12_takesLoad 232 = .ok (.aload_n 0, 1) := by decide +kernel
theorem dX12_takesLoad_233 : decode cX12_takesLoad 233 = .ok (.getfield 13, 3) := by decide +kernel
theorem dX12_takesLoad_236 : decode cX12_takesLoad 236 = .ok (.iconst 5, 1) := by decide +kernel
theorem dX12_takesLoad_237 : decode cX12_takesLoad 237 = .ok (.iaload, 1) := by decide +kernel
theorem dX12_takesLoad_238 : decode cX12_takesLoad 238 = .ok (.iconst 1, 1) := by decide +kernel
theorem dX12_takesLoad_239 : decode cX12_takesLoad 239 = .ok (.if_icmp .ne 23, 3) := by decide +kernel
theorem dX12_takesLoad_242 : decode cX12_takesLoad 242 = .ok (.aload_n 0, 1) := by decide +kernel
theorem dX12_takesLoad_243 : decode cX12_takesLoad 243 = .ok (.getfield 32, 3) := by decide +kernel
theorem dX12_takesLoad_246 : decode cX12_takesLoad 246 = .ok (.bipush 11, 2) := by decide +kernel
theorem dX12_takesLoad_248 : decode cX12_takesLoad 248 = .ok (.iaload, 1) := by decide +kernel
theorem dX12_takesLoad_249 : decode cX12_takesLoad 249 = .ok (.iconst 1, 1) := by decide +kernel
theorem dX12_takesLoad_250 : decode cX12_takesLoad 250 = .ok (.if_icmp .ne 12, 3) := by decide +kernel
theorem dX12_takesLoad_253 : decode cX12_takesLoad 253 = .ok (.aload_n 0, 1) := by decide +kernel
theorem dX12_takesLoad_254 : decode cX12_takesLoad 254 = .ok (.bipush 10, 2) := by decide +kernel
theorem dX12_takesLoad_256 : decode cX12_takesLoad 256 = .ok (.invokevirtual 142, 3) := by decide +kernel
theorem dX12_takesLoad_259 : decode cX12_takesLoad 259 = .ok (.goto 7, 3) := by decide +kernel
theorem dX12_takesLoad_262 : decode cX12_takesLoad 262 = .ok (.aload_n 0, 1) := by decide +kernel
theorem dX12_takesLoad_263 : decode cX12_takesLoad 263 = .ok (.invokevirtual 163, 3) := by decide +kernel
theorem dX12_takesLoad_266 : decode cX12_takesLoad 266 = .ok (.return_, 1) := by decide +kernel
theorem dX12_delivers_0 : decode cX12_delivers 0 = .ok (.bipush 80, 2) := by decide +kernel
theorem dX12_delivers_2 : decode cX12_delivers 2 = .ok (.bipush 52, 2) := by decide +kernel
theorem dX12_delivers_4 : decode cX12_delivers 4 = .ok (.aload_n 0, 1) := by decide +kernel
theorem dX12_delivers_5 : decode cX12_delivers 5 = .ok (.getfield 32, 3) := by decide +kernel
theorem dX12_delivers_8 : decode cX12_delivers 8 = .ok (.bipush 16, 2) := by decide +kernel
theorem dX12_delivers_10 : decode cX12_delivers 10 = .ok (.iaload, 1) := by decide +kernel
theorem dX12_delivers_11 : decode cX12_delivers 11 = .ok (.bipush 12, 2) := by decide +kernel
theorem dX12_delivers_13 : decode cX12_delivers 13 = .ok (.irem, 1) := by decide +kernel
theorem dX12_delivers_14 : decode cX12_delivers 14 = .ok (.imul, 1) := by decide +kernel
theorem dX12_delivers_15 : decode cX12_delivers 15 = .ok (.iadd, 1) := by decide +kernel
theorem dX12_delivers_16 : decode cX12_delivers 16 = .ok (.istore_n 1, 1) := by decide +kernel
theorem dX12_delivers_17 : decode cX12_delivers 17 = .ok (.aload_n 0, 1) := by decide +kernel
theorem dX12_delivers_18 : decode cX12_delivers 18 = .ok (.getfield 32, 3) := by decide +kernel
theorem dX12_delivers_21 : decode cX12_delivers 21 = .ok (.iload_n 1, 1) := by decide +kernel
theorem dX12_delivers_22 : decode cX12_delivers 22 = .ok (.aload_n 0, 1) := by decide +kernel
theorem dX12_delivers_23 : decode cX12_delivers 23 = .ok (.getfield 32, 3) := by decide +kernel
theorem dX12_delivers_26 : decode cX12_delivers 26 = .ok (.bipush 11, 2) := by decide +kernel
theorem dX12_delivers_28 : decode cX12_delivers 28 = .ok (.iaload, 1) := by decide +kernel
theorem dX12_delivers_29 : decode cX12_delivers 29 = .ok (.iastore, 1) := by decide +kernel
theorem dX12_delivers_30 : decode cX12_delivers 30 = .ok (.aload_n 0, 1) := by decide +kernel
theorem dX12_delivers_31 : decode cX12_delivers 31 = .ok (.getfield 32, 3) := by decide +kernel
theorem dX12_delivers_34 : decode cX12_delivers 34 = .ok (.iload_n 1, 1) := by decide +kernel
theorem dX12_delivers_35 : decode cX12_delivers 35 = .ok (.iconst 1, 1) := by decide +kernel
theorem dX12_delivers_36 : decode cX12_delivers 36 = .ok (.iadd, 1) := by decide +kernel
theorem dX12_delivers_37 : decode cX12_delivers 37 = .ok (.aload_n 0, 1) := by decide +kernel
theorem dX12_delivers_38 : decode cX12_delivers 38 = .ok (.getfield 32, 3) := by decide +kernel
theorem dX12_delivers_41 : decode cX12_delivers 41 = .ok (.bipush 10, 2) := by decide +kernel
theorem dX12_delivers_43 : decode cX12_delivers 43 = .ok (.iaload, 1) := by decide +kernel
theorem dX12_delivers_44 : decode cX12_delivers 44 = .ok (.iastore, 1) := by decide +kernel
theorem dX12_delivers_45 : decode cX12_delivers 45 = .ok (.aload_n 0, 1) := by decide +kernel
theorem dX12_delivers_46 : decode cX12_delivers 46 = .ok (.getfield 32, 3) := by decide +kernel
theorem dX12_delivers_49 : decode cX12_delivers 49 = .ok (.iload_n 1, 1) := by decide +kernel
theorem dX12_delivers_50 : decode cX12_delivers 50 = .ok (.iconst 2, 1) := by decide +kernel
theorem dX12_delivers_51 : decode cX12_delivers 51 = .ok (.iadd, 1) := by decide +kernel
theorem dX12_delivers_52 : decode cX12_delivers 52 = .ok (.aload_n 0, 1) := by decide +kernel
theorem dX12_delivers_53 : decode cX12_delivers 53 = .ok (.getfield 32, 3) := by decide +kernel
theorem dX12_delivers_56 : decode cX12_delivers 56 = .ok (.bipush 12, 2) := by decide +kernel
theorem dX12_delivers_58 : decode cX12_delivers 58 = .ok (.iaload, 1) := by decide +kernel
theorem dX12_delivers_59 : decode cX12_delivers 59 = .ok (.iastore, 1) := by decide +kernel
theorem dX12_delivers_60 : decode cX12_delivers 60 = .ok (.aload_n 0, 1) := by decide +kernel
theorem dX12_delivers_61 : decode cX12_delivers 61 = .ok (.getfield 32, 3) := by decide +kernel
theorem dX12_delivers_64 : decode cX12_delivers 64 = .ok (.iload_n 1, 1) := by decide +kernel
theorem dX12_delivers_65 : decode cX12_delivers 65 = .ok (.iconst 3, 1) := by decide +kernel
theorem dX12_delivers_66 : decode cX12_delivers 66 = .ok (.iadd, 1) := by decide +kernel
theorem dX12_delivers_67 : decode cX12_delivers 67 = .ok (.aload_n 0, 1) := by decide +kernel
theorem dX12_delivers_68 : decode cX12_delivers 68 = .ok (.getfield 13, 3) := by decide +kernel
theorem dX12_delivers_71 : decode cX12_delivers 71 = .ok (.iconst 0, 1) := by decide +kernel
theorem dX12_delivers_72 : decode cX12_delivers 72 = .ok (.iaload, 1) := by decide +kernel
theorem dX12_delivers_73 : decode cX12_delivers 73 = .ok (.iastore, 1) := by decide +kernel
theorem dX12_delivers_74 : decode cX12_delivers 74 = .ok (.aload_n 0, 1) := by decide +kernel
theorem dX12_delivers_75 : decode cX12_delivers 75 = .ok (.getfield 32, 3) := by decide +kernel
theorem dX12_delivers_78 : decode cX12_delivers 78 = .ok (.bipush 32, 2) := by decide +kernel
theorem dX12_delivers_80 : decode cX12_delivers 80 = .ok (.aload_n 0, 1) := by decide +kernel
theorem dX12_delivers_81 : decode cX12_delivers 81 = .ok (.getfield 32, 3) := by decide +kernel
theorem dX12_delivers_84 : decode cX12_delivers 84 = .ok (.iload_n 1, 1) := by decide +kernel
theorem dX12_delivers_85 : decode cX12_delivers 85 = .ok (.iconst 4, 1) := by decide +kernel
theorem dX12_delivers_86 : decode cX12_delivers 86 = .ok (.iadd, 1) := by decide +kernel
theorem dX12_delivers_87 : decode cX12_delivers 87 = .ok (.aload_n 0, 1) := by decide +kernel
theorem dX12_delivers_88 : decode cX12_delivers 88 = .ok (.getfield 13, 3) := by decide +kernel
theorem dX12_delivers_91 : decode cX12_delivers 91 = .ok (.iconst 0, 1) := by decide +kernel
theorem dX12_delivers_92 : decode cX12_delivers 92 = .ok (.iaload, 1) := by decide +kernel
theorem dX12_delivers_93 : decode cX12_delivers 93 = .ok (.invokestatic 166, 3) := by decide +kernel
theorem dX12_delivers_96 : decode cX12_delivers 96 = .ok (.aload_n 0, 1) := by decide +kernel
theorem dX12_delivers_97 : decode cX12_delivers 97 = .ok (.iconst 3, 1) := by decide +kernel
theorem dX12_delivers_98 : decode cX12_delivers 98 = .ok (.invokevirtual 142, 3) := by decide +kernel
theorem dX12_delivers_101 : decode cX12_delivers 101 = .ok (.aload_n 0, 1) := by decide +kernel
theorem dX12_delivers_102 : decode cX12_delivers 102 = .ok (.iload_n 1, 1) := by decide +kernel
theorem dX12_delivers_103 : decode cX12_delivers 103 = .ok (.invokevirtual 170, 3) := by decide +kernel
theorem dX12_delivers_106 : decode cX12_delivers 106 = .ok (.iconst (-1), 1) := by decide +kernel
theorem dX12_delivers_107 : decode cX12_delivers 107 = .ok (.if_icmp .ne 9, 3) := by decide +kernel
theorem dX12_delivers_110 : decode cX12_delivers 110 = .ok (.aload_n 0, 1) := by decide +kernel
theorem dX12_delivers_111 : decode cX12_delivers 111 = .ok (.bipush 9, 2) := by decide +kernel
theorem dX12_delivers_113 : decode cX12_delivers 113 = .ok (.invokevirtual 142, 3) := by decide +kernel
theorem dX12_delivers_116 : decode cX12_delivers 116 = .ok (.return_, 1) := by decide +kernel
theorem dX12_takesHead_0 : decode cX12_takesHead 0 = .ok (.aload_n 0, 1) := by decide +kernel
theorem dX12_takesHead_1 : decode cX12_takesHead 1 = .ok (.getfield 32, 3) := by decide +kernel
theorem dX12_takesHead_4 : decode cX12_takesHead 4 = .ok (.bipush 8, 2) := by decide +kernel
theorem dX12_takesHead_6 : decode cX12_takesHead 6 = .ok (.dup2, 1) := by decide +kernel
theorem dX12_takesHead_7 : decode cX12_takesHead 7 = .ok (.iaload, 1) := by decide +kernel
theorem dX12_takesHead_8 : decode cX12_takesHead 8 = .ok (.iconst 1, 1) := by decide +kernel
theorem dX12_takesHead_9 : decode cX12_takesHead 9 = .ok (.iadd, 1) := by decide +kernel
theorem dX12_takesHead_10 : decode cX12_takesHead 10 = .ok (.iastore, 1) := by decide +kernel
theorem dX12_takesHead_11 : decode cX12_takesHead 11 = .ok (.aload_n 0, 1) := by decide +kernel
theorem dX12_takesHead_12 : decode cX12_takesHead 12 = .ok (.getfield 32, 3) := by decide +kernel
theorem dX12_takesHead_15 : decode cX12_takesHead 15 = .ok (.bipush 8, 2) := by decide +kernel
theorem dX12_takesHead_17 : decode cX12_takesHead 17 = .ok (.iaload, 1) := by decide +kernel
theorem dX12_takesHead_18 : decode cX12_takesHead 18 = .ok (.bipush 40, 2) := by decide +kernel
theorem dX12_takesHead_20 : decode cX12_takesHead 20 = .ok (.if_icmp .ge 4, 3) := by decide +kernel
theorem dX12_takesHead_23 : decode cX12_takesHead 23 = .ok (.return_, 1) := by decide +kernel
theorem dX12_takesHead_24 : decode cX12_takesHead 24 = .ok (.aload_n 0, 1) := by decide +kernel
theorem dX12_takesHead_25 : decode cX12_takesHead 25 = .ok (.getfield 32, 3) := by decide +kernel
theorem dX12_takesHead_28 : decode cX12_takesHead 28 = .ok (.bipush 8, 2) := by decide +kernel
theorem dX12_takesHead_30 : decode cX12_takesHead 30 = .ok (.iconst 0, 1) := by decide +kernel
theorem dX12_takesHead_31 : decode cX12_takesHead 31 = .ok (.iastore, 1) := by decide +kernel
theorem dX12_takesHead_32 : decode cX12_takesHead 32 = .ok (.aload_n 0, 1) := by decide +kernel
theorem dX12_takesHead_33 : decode cX12_takesHead 33 = .ok (.getfield 32, 3) := by decide +kernel
theorem dX12_takesHead_36 : decode cX12_takesHead 36 = .ok (.bipush 6, 2) := by decide +kernel
theorem dX12_takesHead_38 : decode cX12_takesHead 38 = .ok (.iconst 0, 1) := by decide +kernel
theorem dX12_takesHead_39 : decode cX12_takesHead 39 = .ok (.iastore, 1) := by decide +kernel
theorem dX12_takesHead_40 : decode cX12_takesHead 40 = .ok (.aload_n 0, 1) := by decide +kernel
theorem dX12_takesHead_41 : decode cX12_takesHead 41 = .ok (.getfield 32, 3) := by decide +kernel
theorem dX12_takesHead_44 : decode cX12_takesHead 44 = .ok (.bipush 12, 2) := by decide +kernel
theorem dX12_takesHead_46 : decode cX12_takesHead 46 = .ok (.aload_n 0, 1) := by decide +kernel
theorem dX12_takesHead_47 : decode cX12_takesHead 47 = .ok (.getfield 32, 3) := by decide +kernel
theorem dX12_takesHead_50 : decode cX12_takesHead 50 = .ok (.iconst 0, 1) := by decide +kernel
theorem dX12_takesHead_51 : decode cX12_takesHead 51 = .ok (.iaload, 1) := by decide +kernel
theorem dX12_takesHead_52 : decode cX12_takesHead 52 = .ok (.bipush 40, 2) := by decide +kernel
theorem dX12_takesHead_54 : decode cX12_takesHead 54 = .ok (.isub, 1) := by decide +kernel
theorem dX12_takesHead_55 : decode cX12_takesHead 55 = .ok (.iastore, 1) := by decide +kernel
theorem dX12_takesHead_56 : decode cX12_takesHead 56 = .ok (.aload_n 0, 1) := by decide +kernel
theorem dX12_takesHead_57 : decode cX12_takesHead 57 = .ok (.getfield 32, 3) := by decide +kernel
theorem dX12_takesHead_60 : decode cX12_takesHead 60 = .ok (.bipush 11, 2) := by decide +kernel
theorem dX12_takesHead_62 : decode cX12_takesHead 62 = .ok (.aload_n 0, 1) := by decide +kernel
theorem dX12_takesHead_63 : decode cX12_takesHead 63 = .ok (.getfield 32, 3) := by decide +kernel
theorem dX12_takesHead_66 : decode cX12_takesHead 66 = .ok (.bipush 27, 2) := by decide +kernel
theorem dX12_takesHead_68 : decode cX12_takesHead 68 = .ok (.iaload, 1) := by decide +kernel
theorem dX12_takesHead_69 : decode cX12_takesHead 69 = .ok (.iastore, 1) := by decide +kernel
theorem dX12_takesHead_70 : decode cX12_takesHead 70 = .ok (.aload_n 0, 1) := by decide +kernel
theorem dX12_takesHead_71 : decode cX12_takesHead 71 = .ok (.getfield 32, 3) := by decide +kernel
theorem dX12_takesHead_74 : decode cX12_takesHead 74 = .ok (.bipush 10, 2) := by decide +kernel
theorem dX12_takesHead_76 : decode cX12_takesHead 76 = .ok (.iconst 0, 1) := by decide +kernel
theorem dX12_takesHead_77 : decode cX12_takesHead 77 = .ok (.iastore, 1) := by decide +kernel
theorem dX12_takesHead_78 : decode cX12_takesHead 78 = .ok (.aload_n 0, 1) := by decide +kernel
theorem dX12_takesHead_79 : decode cX12_takesHead 79 = .ok (.invokevirtual 154, 3) := by decide +kernel
theorem dX12_takesHead_82 : decode cX12_takesHead 82 = .ok (.istore_n 1, 1) := by decide +kernel
theorem dX12_takesHead_83 : decode cX12_takesHead 83 = .ok (.iload_n 1, 1) := by decide +kernel
theorem dX12_takesHead_84 : decode cX12_takesHead 84 = .ok (.ifCond .ne 8, 3) := by decide +kernel
theorem dX12_takesHead_87 : decode cX12_takesHead 87 = .ok (.aload_n 0, 1) := by decide +kernel
theorem dX12_takesHead_88 : decode cX12_takesHead 88 = .ok (.iconst 0, 1) := by decide +kernel
theorem dX12_takesHead_89 : decode cX12_takesHead 89 = .ok (.invokevirtual 142, 3) := by decide +kernel
theorem dX12_takesHead_92 : decode cX12_takesHead 92 = .ok (.sipush 776, 3) := by decide +kernel
theorem dX12_takesHead_95 : decode cX12_takesHead 95 = .ok (.iconst 3, 1) := by decide +kernel
theorem dX12_takesHead_96 : decode cX12_takesHead 96 = .ok (.aload_n 0, 1) := by decide +kernel
theorem dX12_takesHead_97 : decode cX12_takesHead 97 = .ok (.getfield 32, 3) := by decide +kernel
theorem dX12_takesHead_100 : decode cX12_takesHead 100 = .ok (.bipush 21, 2) := by decide +kernel
theorem dX12_takesHead_102 : decode cX12_takesHead 102 = .ok (.iaload, 1) := by decide +kernel
theorem dX12_takesHead_103 : decode cX12_takesHead 103 = .ok (.bipush 32, 2) := by decide +kernel
theorem dX12_takesHead_105 : decode cX12_takesHead 105 = .ok (.irem, 1) := by decide +kernel
theorem dX12_takesHead_106 : decode cX12_takesHead 106 = .ok (.imul, 1) := by decide +kernel
theorem dX12_takesHead_107 : decode cX12_takesHead 107 = .ok (.iadd, 1) := by decide +kernel
theorem dX12_takesHead_108 : decode cX12_takesHead 108 = .ok (.istore_n 2, 1) := by decide +kernel
theorem dX12_takesHead_109 : decode cX12_takesHead 109 = .ok (.aload_n 0, 1) := by decide +kernel
theorem dX12_takesHead_110 : decode cX12_takesHead 110 = .ok (.getfield 32, 3) := by decide +kernel
theorem dX12_takesHead_113 : decode cX12_takesHead 113 = .ok (.iload_n 2, 1) := by decide +kernel
theorem dX12_takesHead_114 : decode cX12_takesHead 114 = .ok (.aload_n 0, 1) := by decide +kernel
theorem dX12_takesHead_115 : decode cX12_takesHead 115 = .ok (.getfield 32, 3) := by decide +kernel
theorem dX12_takesHead_118 : decode cX12_takesHead 118 = .ok (.bipush 12, 2) := by decide +kernel
theorem dX12_takesHead_120 : decode cX12_takesHead 120 = .ok (.iaload, 1) := by decide +kernel
theorem dX12_takesHead_121 : decode cX12_takesHead 121 = .ok (.iastore, 1) := by decide +kernel
theorem dX12_takesHead_122 : decode cX12_takesHead 122 = .ok (.aload_n 0, 1) := by decide +kernel
theorem dX12_takesHead_123 : decode cX12_takesHead 123 = .ok (.getfield 32, 3) := by decide +kernel
theorem dX12_takesHead_126 : decode cX12_takesHead 126 = .ok (.iload_n 2, 1) := by decide +kernel
theorem dX12_takesHead_127 : decode cX12_takesHead 127 = .ok (.iconst 1, 1) := by decide +kernel
theorem dX12_takesHead_128 : decode cX12_takesHead 128 = .ok (.iadd, 1) := by decide +kernel
theorem dX12_takesHead_129 : decode cX12_takesHead 129 = .ok (.iload_n 1, 1) := by decide +kernel
theorem dX12_takesHead_130 : decode cX12_takesHead 130 = .ok (.iastore, 1) := by decide +kernel
theorem dX12_takesHead_131 : decode cX12_takesHead 131 = .ok (.aload_n 0, 1) := by decide +kernel
theorem dX12_takesHead_132 : decode cX12_takesHead 132 = .ok (.bipush 8, 2) := by decide +kernel
theorem dX12_takesHead_134 : decode cX12_takesHead 134 = .ok (.invokevirtual 142, 3) := by decide +kernel
theorem dX12_takesHead_137 : decode cX12_takesHead 137 = .ok (.aload_n 0, 1) := by decide +kernel
theorem dX12_takesHead_138 : decode cX12_takesHead 138 = .ok (.getfield 32, 3) := by decide +kernel
theorem dX12_takesHead_141 : decode cX12_takesHead 141 = .ok (.iconst 1, 1) := by decide +kernel
theorem dX12_takesHead_142 : decode cX12_takesHead 142 = .ok (.iaload, 1) := by decide +kernel
theorem dX12_takesHead_143 : decode cX12_takesHead 143 = .ok (.iconst 1, 1) := by decide +kernel
theorem dX12_takesHead_144 : decode cX12_takesHead 144 = .ok (.if_icmp .ne 11, 3) := by decide +kernel
theorem dX12_takesHead_147 : decode cX12_takesHead 147 = .ok (.aload_n 0, 1) := by decide +kernel
theorem dX12_takesHead_148 : decode cX12_takesHead 148 = .ok (.iload_n 1, 1) := by decide +kernel
theorem dX12_takesHead_149 : decode cX12_takesHead 149 = .ok (.invokevirtual 173, 3) := by decide +kernel
theorem dX12_takesHead_152 : decode cX12_takesHead 152 = .ok (.goto 8, 3) := by decide +kernel
theorem dX12_takesHead_155 : decode cX12_takesHead 155 = .ok (.aload_n 0, 1) := by decide +kernel
theorem dX12_takesHead_156 : decode cX12_takesHead 156 = .ok (.iload_n 1, 1) := by decide +kernel
theorem dX12_takesHead_157 : decode cX12_takesHead 157 = .ok (.invokevirtual 176, 3) := by decide +kernel
theorem dX12_takesHead_160 : decode cX12_takesHead 160 = .ok (.aload_n 0, 1) := by decide +kernel
theorem dX12_takesHead_161 : decode cX12_takesHead 161 = .ok (.getfield 32, 3) := by decide +kernel
theorem dX12_takesHead_164 : decode cX12_takesHead 164 = .ok (.iload_n 2, 1) := by decide +kernel
theorem dX12_takesHead_165 : decode cX12_takesHead 165 = .ok (.iconst 2, 1) := by decide +kernel
theorem dX12_takesHead_166 : decode cX12_takesHead 166 = .ok (.iadd, 1) := by decide +kernel
theorem dX12_takesHead_167 : decode cX12_takesHead 167 = .ok (.iload_n 1, 1) := by decide +kernel
theorem dX12_takesHead_168 : decode cX12_takesHead 168 = .ok (.ifCond .ne 7, 3) := by decide +kernel
theorem dX12_takesHead_171 : decode cX12_takesHead 171 = .ok (.iconst 0, 1) := by decide +kernel
theorem dX12_takesHead_172 : decode cX12_takesHead 172 = .ok (.goto 32, 3) := by decide +kernel
theorem dX12_takesHead_175 : decode cX12_takesHead 175 = .ok (.aload_n 0, 1) := by decide +kernel
theorem dX12_takesHead_176 : decode cX12_takesHead 176 = .ok (.getfield 32, 3) := by decide +kernel
theorem dX12_takesHead_179 : decode cX12_takesHead 179 = .ok (.iconst 1, 1) := by decide +kernel
theorem dX12_takesHead_180 : decode cX12_takesHead 180 = .ok (.iaload, 1) := by decide +kernel
theorem dX12_takesHead_181 : decode cX12_takesHead 181 = .ok (.ifCond .ne 7, 3) := by decide +kernel
theorem dX12_takesHead_184 : decode cX12_takesHead 184 = .ok (.iconst 3, 1) := by decide +kernel
theorem dX12_takesHead_185 : decode cX12_takesHead 185 = .ok (.goto 19, 3) := by decide +kernel
theorem dX12_takesHead_188 : decode cX12_takesHead 188 = .ok (.aload_n 0, 1) := by decide +kernel
theorem dX12_takesHead_189 : decode cX12_takesHead 189 = .ok (.getfield 32, 3) := by decide +kernel
theorem dX12_takesHead_192 : decode cX12_takesHead 192 = .ok (.bipush 10, 2) := by decide +kernel
theorem dX12_takesHead_194 : decode cX12_takesHead 194 = .ok (.iaload, 1) := by decide +kernel
theorem dX12_takesHead_195 : decode cX12_takesHead 195 = .ok (.iconst 1, 1) := by decide +kernel
theorem dX12_takesHead_196 : decode cX12_takesHead 196 = .ok (.if_icmp .ne 7, 3) := by decide +kernel
theorem dX12_takesHead_199 : decode cX12_takesHead 199 = .ok (.iconst 1, 1) := by decide +kernel
theorem dX12_takesHead_200 : decode cX12_takesHead 200 = .ok (.goto 4, 3) := by decide +kernel
theorem dX12_takesHead_203 : decode cX12_takesHead 203 = .ok (.iconst 2, 1) := by decide +kernel
theorem dX12_takesHead_204 : decode cX12_takesHead 204 = .ok (.iastore, 1) := by decide +kernel
theorem dX12_takesHead_205 : decode cX12_takesHead 205 = .ok (.return_, 1) := by decide +kernel
theorem dX12_checksNear_0 : decode cX12_checksNear 0 = .ok (.iload_n 1, 1) := by decide +kernel
theorem dX12_checksNear_1 : decode cX12_checksNear 1 = .ok (.ifCond .eq 9, 3) := by decide +kernel
theorem dX12_checksNear_4 : decode cX12_checksNear 4 = .ok (.aload_n 0, 1) := by decide +kernel
theorem dX12_checksNear_5 : decode cX12_checksNear 5 = .ok (.iconst 0, 1) := by decide +kernel
theorem dX12_checksNear_6 : decode cX12_checksNear 6 = .ok (.invokevirtual 157, 3) := by decide +kernel
theorem dX12_checksNear_9 : decode cX12_checksNear 9 = .ok (.return_, 1) := by decide +kernel
theorem dX12_checksNear_10 : decode cX12_checksNear 10 = .ok (.aload_n 0, 1) := by decide +kernel
theorem dX12_checksNear_11 : decode cX12_checksNear 11 = .ok (.getfield 32, 3) := by decide +kernel
theorem dX12_checksNear_14 : decode cX12_checksNear 14 = .ok (.bipush 9, 2) := by decide +kernel
theorem dX12_checksNear_16 : decode cX12_checksNear 16 = .ok (.iconst 0, 1) := by decide +kernel
theorem dX12_checksNear_17 : decode cX12_checksNear 17 = .ok (.iastore, 1) := by decide +kernel
theorem dX12_checksNear_18 : decode cX12_checksNear 18 = .ok (.aload_n 0, 1) := by decide +kernel
theorem dX12_checksNear_19 : decode cX12_checksNear 19 = .ok (.getfield 32, 3) := by decide +kernel
theorem dX12_checksNear_22 : decode cX12_checksNear 22 = .ok (.iconst 2, 1) := by decide +kernel
theorem dX12_checksNear_23 : decode cX12_checksNear 23 = .ok (.dup2, 1) := by decide +kernel
theorem dX12_checksNear_24 : decode cX12_checksNear 24 = .ok (.iaload, 1) := by decide +kernel
theorem dX12_checksNear_25 : decode cX12_checksNear 25 = .ok (.iconst 1, 1) := by decide +kernel
theorem dX12_checksNear_26 : decode cX12_checksNear 26 = .ok (.iadd, 1) := by decide +kernel
theorem dX12_checksNear_27 : decode cX12_checksNear 27 = .ok (.iastore, 1) := by decide +kernel
theorem dX12_checksNear_28 : decode cX12_checksNear 28 = .ok (.aload_n 0, 1) := by decide +kernel
theorem dX12_checksNear_29 : decode cX12_checksNear 29 = .ok (.getfield 32, 3) := by decide +kernel
theorem dX12_checksNear_32 : decode cX12_checksNear 32 = .ok (.iconst 2, 1) := by decide +kernel
theorem dX12_checksNear_33 : decode cX12_checksNear 33 = .ok (.iaload, 1) := by decide +kernel
theorem dX12_checksNear_34 : decode cX12_checksNear 34 = .ok (.aload_n 0, 1) := by decide +kernel
theorem dX12_checksNear_35 : decode cX12_checksNear 35 = .ok (.getfield 13, 3) := by decide +kernel
theorem dX12_checksNear_38 : decode cX12_checksNear 38 = .ok (.iconst 2, 1) := by decide +kernel
theorem dX12_checksNear_39 : decode cX12_checksNear 39 = .ok (.iaload, 1) := by decide +kernel
theorem dX12_checksNear_40 : decode cX12_checksNear 40 = .ok (.if_icmp .ge 4, 3) := by decide +kernel
theorem dX12_checksNear_43 : decode cX12_checksNear 43 = .ok (.return_, 1) := by decide +kernel
theorem dX12_checksNear_44 : decode cX12_checksNear 44 = .ok (.aload_n 0, 1) := by decide +kernel
theorem dX12_checksNear_45 : decode cX12_checksNear 45 = .ok (.iconst 2, 1) := by decide +kernel
theorem dX12_checksNear_46 : decode cX12_checksNear 46 = .ok (.invokevirtual 157, 3) := by decide +kernel
theorem dX12_checksNear_49 : decode cX12_checksNear 49 = .ok (.aload_n 0, 1) := by decide +kernel
theorem dX12_checksNear_50 : decode cX12_checksNear 50 = .ok (.getfield 32, 3) := by decide +kernel
theorem dX12_checksNear_53 : decode cX12_checksNear 53 = .ok (.iconst 4, 1) := by decide +kernel
theorem dX12_checksNear_54 : decode cX12_checksNear 54 = .ok (.iconst 1, 1) := by decide +kernel
theorem dX12_checksNear_55 : decode cX12_checksNear 55 = .ok (.iastore, 1) := by decide +kernel
theorem dX12_checksNear_56 : decode cX12_checksNear 56 = .ok (.aload_n 0, 1) := by decide +kernel
theorem dX12_checksNear_57 : decode cX12_checksNear 57 = .ok (.getfield 32, 3) := by decide +kernel
theorem dX12_checksNear_60 : decode cX12_checksNear 60 = .ok (.iconst 3, 1) := by decide +kernel
theorem dX12_checksNear_61 : decode cX12_checksNear 61 = .ok (.iconst 0, 1) := by decide +kernel
theorem dX12_checksNear_62 : decode cX12_checksNear 62 = .ok (.iastore, 1) := by decide +kernel
theorem dX12_checksNear_63 : decode cX12_checksNear 63 = .ok (.aload_n 0, 1) := by decide +kernel
theorem dX12_checksNear_64 : decode cX12_checksNear 64 = .ok (.getfield 32, 3) := by decide +kernel
theorem dX12_checksNear_67 : decode cX12_checksNear 67 = .ok (.bipush 9, 2) := by decide +kernel
theorem dX12_checksNear_69 : decode cX12_checksNear 69 = .ok (.iconst 1, 1) := by decide +kernel
theorem dX12_checksNear_70 : decode cX12_checksNear 70 = .ok (.iastore, 1) := by decide +kernel
theorem dX12_checksNear_71 : decode cX12_checksNear 71 = .ok (.return_, 1) := by decide +kernel
theorem dX12_checksSure_0 : decode cX12_checksSure 0 = .ok (.iload_n 1, 1) := by decide +kernel
theorem dX12_checksSure_1 : decode cX12_checksSure 1 = .ok (.ifCond .ne 26, 3) := by decide +kernel
theorem dX12_checksSure_4 : decode cX12_checksSure 4 = .ok (.aload_n 0, 1) := by decide +kernel
theorem dX12_checksSure_5 : decode cX12_checksSure 5 = .ok (.getfield 32, 3) := by decide +kernel
theorem dX12_checksSure_8 : decode cX12_checksSure 8 = .ok (.iconst 3, 1) := by decide +kernel
theorem dX12_checksSure_9 : decode cX12_checksSure 9 = .ok (.iconst 0, 1) := by decide +kernel
theorem dX12_checksSure_10 : decode cX12_checksSure 10 = .ok (.iastore, 1) := by decide +kernel
theorem dX12_checksSure_11 : decode cX12_checksSure 11 = .ok (.aload_n 0, 1) := by decide +kernel
theorem dX12_checksSure_12 : decode cX12_checksSure 12 = .ok (.getfield 32, 3) := by decide +kernel
theorem dX12_checksSure_15 : decode cX12_checksSure 15 = .ok (.iconst 4, 1) := by decide +kernel
theorem dX12_checksSure_16 : decode cX12_checksSure 16 = .ok (.iconst 1, 1) := by decide +kernel
theorem dX12_checksSure_17 : decode cX12_checksSure 17 = .ok (.iastore, 1) := by decide +kernel
theorem dX12_checksSure_18 : decode cX12_checksSure 18 = .ok (.aload_n 0, 1) := by decide +kernel
theorem dX12_checksSure_19 : decode cX12_checksSure 19 = .ok (.getfield 32, 3) := by decide +kernel
theorem dX12_checksSure_22 : decode cX12_checksSure 22 = .ok (.bipush 9, 2) := by decide +kernel
theorem dX12_checksSure_24 : decode cX12_checksSure 24 = .ok (.iconst 1, 1) := by decide +kernel
theorem dX12_checksSure_25 : decode cX12_checksSure 25 = .ok (.iastore, 1) := by decide +kernel
theorem dX12_checksSure_26 : decode cX12_checksSure 26 = .ok (.return_, 1) := by decide +kernel
theorem dX12_checksSure_27 : decode cX12_checksSure 27 = .ok (.aload_n 0, 1) := by decide +kernel
theorem dX12_checksSure_28 : decode cX12_checksSure 28 = .ok (.getfield 32, 3) := by decide +kernel
theorem dX12_checksSure_31 : decode cX12_checksSure 31 = .ok (.iconst 3, 1) := by decide +kernel
theorem dX12_checksSure_32 : decode cX12_checksSure 32 = .ok (.dup2, 1) := by decide +kernel
theorem dX12_checksSure_33 : decode cX12_checksSure 33 = .ok (.iaload, 1) := by decide +kernel
theorem dX12_checksSure_34 : decode cX12_checksSure 34 = .ok (.iconst 1, 1) := by decide +kernel
theorem dX12_checksSure_35 : decode cX12_checksSure 35 = .ok (.iadd, 1) := by decide +kernel
theorem dX12_checksSure_36 : decode cX12_checksSure 36 = .ok (.iastore, 1) := by decide +kernel
theorem dX12_checksSure_37 : decode cX12_checksSure 37 = .ok (.aload_n 0, 1) := by decide +kernel
theorem dX12_checksSure_38 : decode cX12_checksSure 38 = .ok (.getfield 32, 3) := by decide +kernel
theorem dX12_checksSure_41 : decode cX12_checksSure 41 = .ok (.iconst 3, 1) := by decide +kernel
theorem dX12_checksSure_42 : decode cX12_checksSure 42 = .ok (.iaload, 1) := by decide +kernel
theorem dX12_checksSure_43 : decode cX12_checksSure 43 = .ok (.aload_n 0, 1) := by decide +kernel
theorem dX12_checksSure_44 : decode cX12_checksSure 44 = .ok (.getfield 13, 3) := by decide +kernel
theorem dX12_checksSure_47 : decode cX12_checksSure 47 = .ok (.iconst 1, 1) := by decide +kernel
theorem dX12_checksSure_48 : decode cX12_checksSure 48 = .ok (.iaload, 1) := by decide +kernel
theorem dX12_checksSure_49 : decode cX12_checksSure 49 = .ok (.if_icmp .lt 9, 3) := by decide +kernel
theorem dX12_checksSure_52 : decode cX12_checksSure 52 = .ok (.aload_n 0, 1) := by decide +kernel
theorem dX12_checksSure_53 : decode cX12_checksSure 53 = .ok (.iconst 0, 1) := by decide +kernel
theorem dX12_checksSure_54 : decode cX12_checksSure 54 = .ok (.invokevirtual 157, 3) := by decide +kernel
theorem dX12_checksSure_57 : decode cX12_checksSure 57 = .ok (.return_, 1) := by decide +kernel
theorem dX12_checksSure_58 : decode cX12_checksSure 58 = .ok (.aload_n 0, 1) := by decide +kernel
theorem dX12_checksSure_59 : decode cX12_checksSure 59 = .ok (.getfield 32, 3) := by decide +kernel
theorem dX12_checksSure_62 : decode cX12_checksSure 62 = .ok (.iconst 4, 1) := by decide +kernel
theorem dX12_checksSure_63 : decode cX12_checksSure 63 = .ok (.iaload, 1) := by decide +kernel
theorem dX12_checksSure_64 : decode cX12_checksSure 64 = .ok (.iconst 1, 1) := by decide +kernel
theorem dX12_checksSure_65 : decode cX12_checksSure 65 = .ok (.if_icmp .ne 20, 3) := by decide +kernel
theorem dX12_checksSure_68 : decode cX12_checksSure 68 = .ok (.aload_n 0, 1) := by decide +kernel
theorem dX12_checksSure_69 : decode cX12_checksSure 69 = .ok (.getfield 13, 3) := by decide +kernel
theorem dX12_checksSure_72 : decode cX12_checksSure 72 = .ok (.iconst 3, 1) := by decide +kernel
theorem dX12_checksSure_73 : decode cX12_checksSure 73 = .ok (.iaload, 1) := by decide +kernel
theorem dX12_checksSure_74 : decode cX12_checksSure 74 = .ok (.iconst 1, 1) := by decide +kernel
theorem dX12_checksSure_75 : decode cX12_checksSure 75 = .ok (.if_icmp .ne 10, 3) := by decide +kernel
theorem dX12_checksSure_78 : decode cX12_checksSure 78 = .ok (.iload_n 1, 1) := by decide +kernel
theorem dX12_checksSure_79 : decode cX12_checksSure 79 = .ok (.invokestatic 93, 3) := by decide +kernel
theorem dX12_checksSure_82 : decode cX12_checksSure 82 = .ok (.goto 4, 3) := by decide +kernel
theorem dX12_checksSure_85 : decode cX12_checksSure 85 = .ok (.iconst (-1), 1) := by decide +kernel
theorem dX12_checksSure_86 : decode cX12_checksSure 86 = .ok (.istore_n 2, 1) := by decide +kernel
theorem dX12_checksSure_87 : decode cX12_checksSure 87 = .ok (.aload_n 0, 1) := by decide +kernel
theorem dX12_checksSure_88 : decode cX12_checksSure 88 = .ok (.getfield 32, 3) := by decide +kernel
theorem dX12_checksSure_91 : decode cX12_checksSure 91 = .ok (.iconst 4, 1) := by decide +kernel
theorem dX12_checksSure_92 : decode cX12_checksSure 92 = .ok (.iconst 0, 1) := by decide +kernel
theorem dX12_checksSure_93 : decode cX12_checksSure 93 = .ok (.iastore, 1) := by decide +kernel
theorem dX12_checksSure_94 : decode cX12_checksSure 94 = .ok (.aload_n 0, 1) := by decide +kernel
theorem dX12_checksSure_95 : decode cX12_checksSure 95 = .ok (.getfield 32, 3) := by decide +kernel
theorem dX12_checksSure_98 : decode cX12_checksSure 98 = .ok (.bipush 9, 2) := by decide +kernel
theorem dX12_checksSure_100 : decode cX12_checksSure 100 = .ok (.iload_n 2, 1) := by decide +kernel
theorem dX12_checksSure_101 : decode cX12_checksSure 101 = .ok (.iconst (-1), 1) := by decide +kernel
theorem dX12_checksSure_102 : decode cX12_checksSure 102 = .ok (.if_icmp .ne 7, 3) := by decide +kernel
theorem dX12_checksSure_105 : decode cX12_checksSure 105 = .ok (.iconst 0, 1) := by decide +kernel
theorem dX12_checksSure_106 : decode cX12_checksSure 106 = .ok (.goto 4, 3) := by decide +kernel
theorem dX12_checksSure_109 : decode cX12_checksSure 109 = .ok (.iconst 1, 1) := by decide +kernel
theorem dX12_checksSure_110 : decode cX12_checksSure 110 = .ok (.iastore, 1) := by decide +kernel
theorem dX12_checksSure_111 : decode cX12_checksSure 111 = .ok (.aload_n 0, 1) := by decide +kernel
theorem dX12_checksSure_112 : decode cX12_checksSure 112 = .ok (.getfield 32, 3) := by decide +kernel
theorem dX12_checksSure_115 : decode cX12_checksSure 115 = .ok (.bipush 10, 2) := by decide +kernel
theorem dX12_checksSure_117 : decode cX12_checksSure 117 = .ok (.aload_n 0, 1) := by decide +kernel
theorem dX12_checksSure_118 : decode cX12_checksSure 118 = .ok (.getfield 32, 3) := by decide +kernel
theorem dX12_checksSure_121 : decode cX12_checksSure 121 = .ok (.bipush 9, 2) := by decide +kernel
theorem dX12_checksSure_123 : decode cX12_checksSure 123 = .ok (.iaload, 1) := by decide +kernel
theorem dX12_checksSure_124 : decode cX12_checksSure 124 = .ok (.iastore, 1) := by decide +kernel
theorem dX12_checksSure_125 : decode cX12_checksSure 125 = .ok (.aload_n 0, 1) := by decide +kernel
theorem dX12_checksSure_126 : decode cX12_checksSure 126 = .ok (.iload_n 2, 1) := by decide +kernel
theorem dX12_checksSure_127 : decode cX12_checksSure 127 = .ok (.iconst (-1), 1) := by decide +kernel
theorem dX12_checksSure_128 : decode cX12_checksSure 128 = .ok (.if_icmp .ne 7, 3) := by decide +kernel
theorem dX12_checksSure_131 : decode cX12_checksSure 131 = .ok (.iconst 2, 1) := by decide +kernel
theorem dX12_checksSure_132 : decode cX12_checksSure 132 = .ok (.goto 4, 3) := by decide +kernel
theorem dX12_checksSure_135 : decode cX12_checksSure 135 = .ok (.iconst 1, 1) := by decide +kernel
theorem dX12_checksSure_136 : decode cX12_checksSure 136 = .ok (.invokevirtual 142, 3) := by decide +kernel
theorem dX12_checksSure_139 : decode cX12_checksSure 139 = .ok (.iload_n 2, 1) := by decide +kernel
theorem dX12_checksSure_140 : decode cX12_checksSure 140 = .ok (.i2l, 1) := by decide +kernel
theorem dX12_checksSure_141 : decode cX12_checksSure 141 = .ok (.lconst 0, 1) := by decide +kernel
theorem dX12_checksSure_142 : decode cX12_checksSure 142 = .ok (.ldc2_w 101, 3) := by decide +kernel
theorem dX12_checksSure_145 : decode cX12_checksSure 145 = .ok (.invokestatic 77, 3) := by decide +kernel
theorem dX12_checksSure_148 : decode cX12_checksSure 148 = .ok (.ifCond .eq 19, 3) := by decide +kernel
theorem dX12_checksSure_151 : decode cX12_checksSure 151 = .ok (.aload_n 0, 1) := by decide +kernel
theorem dX12_checksSure_152 : decode cX12_checksSure 152 = .ok (.getfield 32, 3) := by decide +kernel
theorem dX12_checksSure_155 : decode cX12_checksSure 155 = .ok (.bipush 11, 2) := by decide +kernel
theorem dX12_checksSure_157 : decode cX12_checksSure 157 = .ok (.dup2, 1) := by decide +kernel
theorem dX12_checksSure_158 : decode cX12_checksSure 158 = .ok (.iaload, 1) := by decide +kernel
theorem dX12_checksSure_159 : decode cX12_checksSure 159 = .ok (.iconst 1, 1) := by decide +kernel
theorem dX12_checksSure_160 : decode cX12_checksSure 160 = .ok (.bipush 31, 2) := by decide +kernel
theorem dX12_checksSure_162 : decode cX12_checksSure 162 = .ok (.iload_n 2, 1) := by decide +kernel
theorem dX12_checksSure_163 : decode cX12_checksSure 163 = .ok (.isub, 1) := by decide +kernel
theorem dX12_checksSure_164 : decode cX12_checksSure 164 = .ok (.ishl, 1) := by decide +kernel
theorem dX12_checksSure_165 : decode cX12_checksSure 165 = .ok (.ixor, 1) := by decide +kernel
theorem dX12_checksSure_166 : decode cX12_checksSure 166 = .ok (.iastore, 1) := by decide +kernel
theorem dX12_checksSure_167 : decode cX12_checksSure 167 = .ok (.return_, 1) := by decide +kernel
theorem dX12_stage_0 : decode cX12_stage 0 = .ok (.aload_n 0, 1) := by decide +kernel
theorem dX12_stage_1 : decode cX12_stage 1 = .ok (.iconst 0, 1) := by decide +kernel
theorem dX12_stage_2 : decode cX12_stage 2 = .ok (.putfield 1, 3) := by decide +kernel
theorem dX12_stage_5 : decode cX12_stage 5 = .ok (.iload_n 1, 1) := by decide +kernel
theorem dX12_stage_6 : decode cX12_stage 6 = .ok (.i2l, 1) := by decide +kernel
theorem dX12_stage_7 : decode cX12_stage 7 = .ok (.lconst 0, 1) := by decide +kernel
theorem dX12_stage_8 : decode cX12_stage 8 = .ok (.lconst 1, 1) := by decide +kernel
theorem dX12_stage_9 : decode cX12_stage 9 = .ok (.invokestatic 77, 3) := by decide +kernel
theorem dX12_stage_12 : decode cX12_stage 12 = .ok (.ifCond .eq 15, 3) := by decide +kernel
theorem dX12_stage_15 : decode cX12_stage 15 = .ok (.iload_n 2, 1) := by decide +kernel
theorem dX12_stage_16 : decode cX12_stage 16 = .ok (.i2l, 1) := by decide +kernel
theorem dX12_stage_17 : decode cX12_stage 17 = .ok (.lconst 0, 1) := by decide +kernel
theorem dX12_stage_18 : decode cX12_stage 18 = .ok (.ldc2_w 179, 3) := by decide +kernel
theorem dX12_stage_21 : decode cX12_stage 21 = .ok (.invokestatic 77, 3) := by decide +kernel
theorem dX12_stage_24 : decode cX12_stage 24 = .ok (.ifCond .ne 6, 3) := by decide +kernel
theorem dX12_stage_27 : decode cX12_stage 27 = .ok (.bipush (-2), 2) := by decide +kernel
theorem dX12_stage_29 : decode cX12_stage 29 = .ok (.ireturn, 1) := by decide +kernel
theorem dX12_stage_30 : decode cX12_stage 30 = .ok (.iload_n 1, 1) := by decide +kernel
theorem dX12_stage_31 : decode cX12_stage 31 = .ok (.ifCond .ne 10, 3) := by decide +kernel
theorem dX12_stage_34 : decode cX12_stage 34 = .ok (.aload_n 0, 1) := by decide +kernel
theorem dX12_stage_35 : decode cX12_stage 35 = .ok (.getfield 103, 3) := by decide +kernel
theorem dX12_stage_38 : decode cX12_stage 38 = .ok (.goto 10, 3) := by decide +kernel
theorem dX12_stage_41 : decode cX12_stage 41 = .ok (.aload_n 0, 1) := by decide +kernel
theorem dX12_stage_42 : decode cX12_stage 42 = .ok (.getfield 32, 3) := by decide +kernel
theorem dX12_stage_45 : decode cX12_stage 45 = .ok (.bipush 29, 2) := by decide +kernel
theorem dX12_stage_47 : decode cX12_stage 47 = .ok (.iaload, 1) := by decide +kernel
theorem dX12_stage_48 : decode cX12_stage 48 = .ok (.istore_n 3, 1) := by decide +kernel
theorem dX12_stage_49 : decode cX12_stage 49 = .ok (.iload_n 1, 1) := by decide +kernel
theorem dX12_stage_50 : decode cX12_stage 50 = .ok (.ifCond .ne 10, 3) := by decide +kernel
theorem dX12_stage_53 : decode cX12_stage 53 = .ok (.aload_n 0, 1) := by decide +kernel
theorem dX12_stage_54 : decode cX12_stage 54 = .ok (.getfield 106, 3) := by decide +kernel
theorem dX12_stage_57 : decode cX12_stage 57 = .ok (.goto 10, 3) := by decide +kernel
theorem dX12_stage_60 : decode cX12_stage 60 = .ok (.aload_n 0, 1) := by decide +kernel
theorem dX12_stage_61 : decode cX12_stage 61 = .ok (.getfield 32, 3) := by decide +kernel
theorem dX12_stage_64 : decode cX12_stage 64 = .ok (.bipush 30, 2) := by decide +kernel
theorem dX12_stage_66 : decode cX12_stage 66 = .ok (.iaload, 1) := by decide +kernel
theorem dX12_stage_67 : decode cX12_stage 67 = .ok (.istore 4, 2) := by decide +kernel
theorem dX12_stage_69 : decode cX12_stage 69 = .ok (.iload_n 2, 1) := by decide +kernel
theorem dX12_stage_70 : decode cX12_stage 70 = .ok (.bipush 32, 2) := by decide +kernel
theorem dX12_stage_72 : decode cX12_stage 72 = .ok (.if_icmp .ge 12, 3) := by decide +kernel
theorem dX12_stage_75 : decode cX12_stage 75 = .ok (.iload 4, 2) := by decide +kernel
theorem dX12_stage_77 : decode cX12_stage 77 = .ok (.iload_n 2, 1) := by decide +kernel
theorem dX12_stage_78 : decode cX12_stage 78 = .ok (.iushr, 1) := by decide +kernel
theorem dX12_stage_79 : decode cX12_stage 79 = .ok (.iconst 1, 1) := by decide +kernel
theorem dX12_stage_80 : decode cX12_stage 80 = .ok (.iand, 1) := by decide +kernel
theorem dX12_stage_81 : decode cX12_stage 81 = .ok (.goto 11, 3) := by decide +kernel
theorem dX12_stage_84 : decode cX12_stage 84 = .ok (.iload_n 3, 1) := by decide +kernel
theorem dX12_stage_85 : decode cX12_stage 85 = .ok (.iload_n 2, 1) := by decide +kernel
theorem dX12_stage_86 : decode cX12_stage 86 = .ok (.bipush 32, 2) := by decide +kernel
theorem dX12_stage_88 : decode cX12_stage 88 = .ok (.isub, 1) := by decide +kernel
theorem dX12_stage_89 : decode cX12_stage 89 = .ok (.iushr, 1) := by decide +kernel
theorem dX12_stage_90 : decode cX12_stage 90 = .ok (.iconst 1, 1) := by decide +kernel
theorem dX12_stage_91 : decode cX12_stage 91 = .ok (.iand, 1) := by decide +kernel
theorem dX12_stage_92 : decode cX12_stage 92 = .ok (.ireturn, 1) := by decide +kernel
theorem dX12_stages_0 : decode cX12_stages 0 = .ok (.aload_n 0, 1) := by decide +kernel
theorem dX12_stages_1 : decode cX12_stages 1 = .ok (.iconst 0, 1) := by decide +kernel
theorem dX12_stages_2 : decode cX12_stages 2 = .ok (.putfield 1, 3) := by decide +kernel
theorem dX12_stages_5 : decode cX12_stages 5 = .ok (.iload_n 1, 1) := by decide +kernel
theorem dX12_stages_6 : decode cX12_stages 6 = .ok (.i2l, 1) := by decide +kernel
theorem dX12_stages_7 : decode cX12_stages 7 = .ok (.lconst 0, 1) := by decide +kernel
theorem dX12_stages_8 : decode cX12_stages 8 = .ok (.ldc2_w 181, 3) := by decide +kernel
theorem dX12_stages_11 : decode cX12_stages 11 = .ok (.invokestatic 77, 3) := by decide +kernel
theorem dX12_stages_14 : decode cX12_stages 14 = .ok (.ifCond .ne 6, 3) := by decide +kernel
theorem dX12_stages_17 : decode cX12_stages 17 = .ok (.bipush (-3), 2) := by decide +kernel
theorem dX12_stages_19 : decode cX12_stages 19 = .ok (.ireturn, 1) := by decide +kernel
theorem dX12_stages_20 : decode cX12_stages 20 = .ok (.aload_n 0, 1) := by decide +kernel
theorem dX12_stages_21 : decode cX12_stages 21 = .ok (.getfield 32, 3) := by decide +kernel
theorem dX12_stages_24 : decode cX12_stages 24 = .ok (.bipush 30, 2) := by decide +kernel
theorem dX12_stages_26 : decode cX12_stages 26 = .ok (.iload_n 1, 1) := by decide +kernel
theorem dX12_stages_27 : decode cX12_stages 27 = .ok (.iload_n 2, 1) := by decide +kernel
theorem dX12_stages_28 : decode cX12_stages 28 = .ok (.bipush 11, 2) := by decide +kernel
theorem dX12_stages_30 : decode cX12_stages 30 = .ok (.ishl, 1) := by decide +kernel
theorem dX12_stages_31 : decode cX12_stages 31 = .ok (.ior, 1) := by decide +kernel
theorem dX12_stages_32 : decode cX12_stages 32 = .ok (.iastore, 1) := by decide +kernel
theorem dX12_stages_33 : decode cX12_stages 33 = .ok (.aload_n 0, 1) := by decide +kernel
theorem dX12_stages_34 : decode cX12_stages 34 = .ok (.getfield 32, 3) := by decide +kernel
theorem dX12_stages_37 : decode cX12_stages 37 = .ok (.bipush 29, 2) := by decide +kernel
theorem dX12_stages_39 : decode cX12_stages 39 = .ok (.iload_n 2, 1) := by decide +kernel
theorem dX12_stages_40 : decode cX12_stages 40 = .ok (.bipush 21, 2) := by decide +kernel
theorem dX12_stages_42 : decode cX12_stages 42 = .ok (.iushr, 1) := by decide +kernel
theorem dX12_stages_43 : decode cX12_stages 43 = .ok (.iastore, 1) := by decide +kernel
theorem dX12_stages_44 : decode cX12_stages 44 = .ok (.iconst 0, 1) := by decide +kernel
theorem dX12_stages_45 : decode cX12_stages 45 = .ok (.istore_n 3, 1) := by decide +kernel
theorem dX12_stages_46 : decode cX12_stages 46 = .ok (.iconst 0, 1) := by decide +kernel
theorem dX12_stages_47 : decode cX12_stages 47 = .ok (.istore 4, 2) := by decide +kernel
theorem dX12_stages_49 : decode cX12_stages 49 = .ok (.iload 4, 2) := by decide +kernel
theorem dX12_stages_51 : decode cX12_stages 51 = .ok (.bipush 32, 2) := by decide +kernel
theorem dX12_stages_53 : decode cX12_stages 53 = .ok (.if_icmp .ge 25, 3) := by decide +kernel
theorem dX12_stages_56 : decode cX12_stages 56 = .ok (.iload_n 3, 1) := by decide +kernel
theorem dX12_stages_57 : decode cX12_stages 57 = .ok (.iload_n 1, 1) := by decide +kernel
theorem dX12_stages_58 : decode cX12_stages 58 = .ok (.iload 4, 2) := by decide +kernel
theorem dX12_stages_60 : decode cX12_stages 60 = .ok (.iushr, 1) := by decide +kernel
theorem dX12_stages_61 : decode cX12_stages 61 = .ok (.iconst 1, 1) := by decide +kernel
theorem dX12_stages_62 : decode cX12_stages 62 = .ok (.iand, 1) := by decide +kernel
theorem dX12_stages_63 : decode cX12_stages 63 = .ok (.iload_n 2, 1) := by decide +kernel
theorem dX12_stages_64 : decode cX12_stages 64 = .ok (.iload 4, 2) := by decide +kernel
theorem dX12_stages_66 : decode cX12_stages 66 = .ok (.iushr, 1) := by decide +kernel
theorem dX12_stages_67 : decode cX12_stages 67 = .ok (.iconst 1, 1) := by decide +kernel
theorem dX12_stages_68 : decode cX12_stages 68 = .ok (.iand, 1) := by decide +kernel
theorem dX12_stages_69 : decode cX12_stages 69 = .ok (.iadd, 1) := by decide +kernel
theorem dX12_stages_70 : decode cX12_stages 70 = .ok (.iadd, 1) := by decide +kernel
theorem dX12_stages_71 : decode cX12_stages 71 = .ok (.istore_n 3, 1) := by decide +kernel
theorem dX12_stages_72 : decode cX12_stages 72 = .ok (.iinc 4 1, 3) := by decide +kernel
theorem dX12_stages_75 : decode cX12_stages 75 = .ok (.goto (-26), 3) := by decide +kernel
theorem dX12_stages_78 : decode cX12_stages 78 = .ok (.iload_n 3, 1) := by decide +kernel
theorem dX12_stages_79 : decode cX12_stages 79 = .ok (.ireturn, 1) := by decide +kernel
theorem dX12_takes_0 : decode cX12_takes 0 = .ok (.iconst 0, 1) := by decide +kernel
theorem dX12_takes_1 : decode cX12_takes 1 = .ok (.istore_n 2, 1) := by decide +kernel
theorem dX12_takes_2 : decode cX12_takes 2 = .ok (.iload_n 2, 1) := by decide +kernel
theorem dX12_takes_3 : decode cX12_takes 3 = .ok (.iload_n 1, 1) := by decide +kernel
theorem dX12_takes_4 : decode cX12_takes 4 = .ok (.if_icmp .ge 26, 3) := by decide +kernel
theorem dX12_takes_7 : decode cX12_takes 7 = .ok (.aload_n 0, 1) := by decide +kernel
theorem dX12_takes_8 : decode cX12_takes 8 = .ok (.getfield 32, 3) := by decide +kernel
theorem dX12_takes_11 : decode cX12_takes 11 = .ok (.iconst 0, 1) := by decide +kernel
theorem dX12_takes_12 : decode cX12_takes 12 = .ok (.iaload, 1) := by decide +kernel
theorem dX12_takes_13 : decode cX12_takes 13 = .ok (.aload_n 0, 1) := by decide +kernel
theorem dX12_takes_14 : decode cX12_takes 14 = .ok (.getfield 64, 3) := by decide +kernel
theorem dX12_takes_17 : decode cX12_takes 17 = .ok (.if_icmp .ge 13, 3) := by decide +kernel
theorem dX12_takes_20 : decode cX12_takes 20 = .ok (.aload_n 0, 1) := by decide +kernel
theorem dX12_takes_21 : decode cX12_takes 21 = .ok (.invokevirtual 183, 3) := by decide +kernel
theorem dX12_takes_24 : decode cX12_takes 24 = .ok (.iinc 2 1, 3) := by decide +kernel
theorem dX12_takes_27 : decode cX12_takes 27 = .ok (.goto (-25), 3) := by decide +kernel
theorem dX12_takes_30 : decode cX12_takes 30 = .ok (.return_, 1) := by decide +kernel
theorem dX12_take_0 : decode cX12_take 0 = .ok (.aload_n 0, 1) := by decide +kernel
theorem dX12_take_1 : decode cX12_take 1 = .ok (.iconst 0, 1) := by decide +kernel
theorem dX12_take_2 : decode cX12_take 2 = .ok (.putfield 1, 3) := by decide +kernel
theorem dX12_take_5 : decode cX12_take 5 = .ok (.iload_n 1, 1) := by decide +kernel
theorem dX12_take_6 : decode cX12_take 6 = .ok (.i2l, 1) := by decide +kernel
theorem dX12_take_7 : decode cX12_take 7 = .ok (.lconst 1, 1) := by decide +kernel
theorem dX12_take_8 : decode cX12_take 8 = .ok (.ldc2_w 186, 3) := by decide +kernel
theorem dX12_take_11 : decode cX12_take 11 = .ok (.invokestatic 77, 3) := by decide +kernel
theorem dX12_take_14 : decode cX12_take 14 = .ok (.ifCond .ne 6, 3) := by decide +kernel
