theorem inX1 : ∀ w ∈ u_ws RX1 TX1 2, w ∈ lw_gd := by decide +kernel
theorem inX2 : ∀ w ∈ u_ws RX2 TX2 1, w ∈ lw_gd := by decide +kernel
theorem inX3 : ∀ w ∈ u_ws RX3 TX3 1, w ∈ lw_gd := by decide +kernel
theorem inX4 : ∀ w ∈ u_ws RX4 TX4 3, w ∈ lw_gd := by decide +kernel
theorem inX5 : ∀ w ∈ u_ws RX5 TX5 4, w ∈ lw_gd := by decide +kernel
theorem inX6 : ∀ w ∈ u_ws RX6 TX6 19, w ∈ lw_gd := by decide +kernel
theorem inX7 : ∀ w ∈ u_ws RX7 TX7 4, w ∈ lw_gd := by decide +kernel
theorem inX8 : ∀ w ∈ u_ws RX8 TX8 4, w ∈ lw_gd := by decide +kernel
theorem inX9 : ∀ w ∈ u_ws RX9 TX9 4, w ∈ lw_gd := by decide +kernel
theorem inX10 : ∀ w ∈ u_ws RX10 TX10 3, w ∈ lw_gd := by decide +kernel
theorem inX11 : ∀ w ∈ u_ws RX11 TX11 12, w ∈ lw_gd := by decide +kernel
theorem inX12 : ∀ w ∈ u_ws RX12 TX12 22, w ∈ lw_gd := by decide +kernel
theorem fl_X11_9 : Cond.fieldLink RX11 9 RX11 (xsn 2) "[I" ∈ lw_gd := xm (i := 82) (by decide +kernel) (by decide +kernel)
theorem fl_X4_9 : Cond.fieldLink RX4 9 (TX4 0).1 (TX4 0).2.1 (TX4 0).2.2.1 ∈ lw_gd := xm (i := 97) (by decide +kernel) (by decide +kernel)
theorem fl_X4_15 : Cond.fieldLink RX4 15 (TX4 1).1 (TX4 1).2.1 (TX4 1).2.2.1 ∈ lw_gd := xm (i := 98) (by decide +kernel) (by decide +kernel)
theorem fl_X11_96 : Cond.fieldLink RX11 96 (TX4 1).1 (TX4 1).2.1 (TX4 1).2.2.1 ∈ lw_gd := xm (i := 99) (by decide +kernel) (by decide +kernel)
theorem fl_X4_19 : Cond.fieldLink RX4 19 (TX4 2).1 (TX4 2).2.1 (TX4 2).2.2.1 ∈ lw_gd := xm (i := 100) (by decide +kernel) (by decide +kernel)
theorem fl_X11_125 : Cond.fieldLink RX11 125 (TX4 2).1 (TX4 2).2.1 (TX4 2).2.2.1 ∈ lw_gd := xm (i := 101) (by decide +kernel) (by decide +kernel)
theorem fl_X2_9 : Cond.fieldLink RX2 9 (TX2 0).1 (TX2 0).2.1 (TX2 0).2.2.1 ∈ lw_gd := xm (i := 123) (by decide +kernel) (by decide +kernel)
theorem fl_X8_12 : Cond.fieldLink RX8 12 (TX8 0).1 (TX8 0).2.1 (TX8 0).2.2.1 ∈ lw_gd := xm (i := 127) (by decide +kernel) (by decide +kernel)
theorem fl_X11_176 : Cond.fieldLink RX11 176 (TX8 0).1 (TX8 0).2.1 (TX8 0).2.2.1 ∈ lw_gd := xm (i := 128) (by decide +kernel) (by decide +kernel)
theorem fl_X8_18 : Cond.fieldLink RX8 18 (TX8 1).1 (TX8 1).2.1 (TX8 1).2.2.1 ∈ lw_gd := xm (i := 129) (by decide +kernel) (by decide +kernel)
theorem fl_X8_22 : Cond.fieldLink RX8 22 (TX8 2).1 (TX8 2).2.1 (TX8 2).2.2.1 ∈ lw_gd := xm (i := 130) (by decide +kernel) (by decide +kernel)
theorem fl_X8_26 : Cond.fieldLink RX8 26 (TX8 3).1 (TX8 3).2.1 (TX8 3).2.2.1 ∈ lw_gd := xm (i := 131) (by decide +kernel) (by decide +kernel)
theorem fl_X11_115 : Cond.fieldLink RX11 115 (TX8 3).1 (TX8 3).2.1 (TX8 3).2.2.1 ∈ lw_gd := xm (i := 132) (by decide +kernel) (by decide +kernel)
theorem fl_X7_13 : Cond.fieldLink RX7 13 (TX7 0).1 (TX7 0).2.1 (TX7 0).2.2.1 ∈ lw_gd := xm (i := 157) (by decide +kernel) (by decide +kernel)
theorem fl_X7_19 : Cond.fieldLink RX7 19 (TX7 1).1 (TX7 1).2.1 (TX7 1).2.2.1 ∈ lw_gd := xm (i := 158) (by decide +kernel) (by decide +kernel)
theorem fl_X7_23 : Cond.fieldLink RX7 23 (TX7 2).1 (TX7 2).2.1 (TX7 2).2.2.1 ∈ lw_gd := xm (i := 159) (by decide +kernel) (by decide +kernel)
theorem fl_X11_258 : Cond.fieldLink RX11 258 (TX7 2).1 (TX7 2).2.1 (TX7 2).2.2.1 ∈ lw_gd := xm (i := 160) (by decide +kernel) (by decide +kernel)
theorem fl_X7_26 : Cond.fieldLink RX7 26 (TX7 3).1 (TX7 3).2.1 (TX7 3).2.2.1 ∈ lw_gd := xm (i := 161) (by decide +kernel) (by decide +kernel)
theorem fl_X5_40 : Cond.fieldLink RX5 40 (TX7 3).1 (TX7 3).2.1 (TX7 3).2.2.1 ∈ lw_gd := xm (i := 162) (by decide +kernel) (by decide +kernel)
theorem fl_X5_16 : Cond.fieldLink RX5 16 (TX5 0).1 (TX5 0).2.1 (TX5 0).2.2.1 ∈ lw_gd := xm (i := 172) (by decide +kernel) (by decide +kernel)
theorem fl_X11_230 : Cond.fieldLink RX11 230 (TX5 0).1 (TX5 0).2.1 (TX5 0).2.2.1 ∈ lw_gd := xm (i := 173) (by decide +kernel) (by decide +kernel)
theorem fl_X5_20 : Cond.fieldLink RX5 20 (TX5 1).1 (TX5 1).2.1 (TX5 1).2.2.1 ∈ lw_gd := xm (i := 174) (by decide +kernel) (by decide +kernel)
theorem fl_X6_185 : Cond.fieldLink RX6 185 (TX5 1).1 (TX5 1).2.1 (TX5 1).2.2.1 ∈ lw_gd := xm (i := 175) (by decide +kernel) (by decide +kernel)
theorem fl_X11_252 : Cond.fieldLink RX11 252 (TX5 1).1 (TX5 1).2.1 (TX5 1).2.2.1 ∈ lw_gd := xm (i := 176) (by decide +kernel) (by decide +kernel)
theorem fl_X5_23 : Cond.fieldLink RX5 23 (TX5 2).1 (TX5 2).2.1 (TX5 2).2.2.1 ∈ lw_gd := xm (i := 177) (by decide +kernel) (by decide +kernel)
theorem fl_X6_167 : Cond.fieldLink RX6 167 (TX5 2).1 (TX5 2).2.1 (TX5 2).2.2.1 ∈ lw_gd := xm (i := 178) (by decide +kernel) (by decide +kernel)
theorem fl_X11_250 : Cond.fieldLink RX11 250 (TX5 2).1 (TX5 2).2.1 (TX5 2).2.2.1 ∈ lw_gd := xm (i := 179) (by decide +kernel) (by decide +kernel)
theorem fl_X5_26 : Cond.fieldLink RX5 26 (TX5 3).1 (TX5 3).2.1 (TX5 3).2.2.1 ∈ lw_gd := xm (i := 180) (by decide +kernel) (by decide +kernel)
theorem fl_X11_374 : Cond.fieldLink RX11 374 (TX5 3).1 (TX5 3).2.1 (TX5 3).2.2.1 ∈ lw_gd := xm (i := 181) (by decide +kernel) (by decide +kernel)
theorem fl_X10_9 : Cond.fieldLink RX10 9 (TX10 0).1 (TX10 0).2.1 (TX10 0).2.2.1 ∈ lw_gd := xm (i := 203) (by decide +kernel) (by decide +kernel)
theorem fl_X10_15 : Cond.fieldLink RX10 15 (TX10 1).1 (TX10 1).2.1 (TX10 1).2.2.1 ∈ lw_gd := xm (i := 204) (by decide +kernel) (by decide +kernel)
theorem fl_X10_19 : Cond.fieldLink RX10 19 (TX10 2).1 (TX10 2).2.1 (TX10 2).2.2.1 ∈ lw_gd := xm (i := 205) (by decide +kernel) (by decide +kernel)
theorem fl_X11_221 : Cond.fieldLink RX11 221 (TX10 2).1 (TX10 2).2.1 (TX10 2).2.2.1 ∈ lw_gd := xm (i := 206) (by decide +kernel) (by decide +kernel)
theorem fl_X6_33 : Cond.fieldLink RX6 33 (TX6 0).1 (TX6 0).2.1 (TX6 0).2.2.1 ∈ lw_gd := xm (i := 216) (by decide +kernel) (by decide +kernel)
theorem fl_X11_298 : Cond.fieldLink RX11 298 (TX6 0).1 (TX6 0).2.1 (TX6 0).2.2.1 ∈ lw_gd := xm (i := 217) (by decide +kernel) (by decide +kernel)
theorem fl_X6_36 : Cond.fieldLink RX6 36 (TX6 1).1 (TX6 1).2.1 (TX6 1).2.2.1 ∈ lw_gd := xm (i := 218) (by decide +kernel) (by decide +kernel)
theorem fl_X6_40 : Cond.fieldLink RX6 40 (TX6 2).1 (TX6 2).2.1 (TX6 2).2.2.1 ∈ lw_gd := xm (i := 219) (by decide +kernel) (by decide +kernel)
theorem fl_X6_9 : Cond.fieldLink RX6 9 (TX6 3).1 (TX6 3).2.1 (TX6 3).2.2.1 ∈ lw_gd := xm (i := 220) (by decide +kernel) (by decide +kernel)
theorem fl_X11_171 : Cond.fieldLink RX11 171 (TX6 3).1 (TX6 3).2.1 (TX6 3).2.2.1 ∈ lw_gd := xm (i := 221) (by decide +kernel) (by decide +kernel)
theorem fl_X6_18 : Cond.fieldLink RX6 18 (TX6 4).1 (TX6 4).2.1 (TX6 4).2.2.1 ∈ lw_gd := xm (i := 222) (by decide +kernel) (by decide +kernel)
theorem fl_X11_212 : Cond.fieldLink RX11 212 (TX6 4).1 (TX6 4).2.1 (TX6 4).2.2.1 ∈ lw_gd := xm (i := 223) (by decide +kernel) (by decide +kernel)
theorem fl_X6_25 : Cond.fieldLink RX6 25 (TX6 5).1 (TX6 5).2.1 (TX6 5).2.2.1 ∈ lw_gd := xm (i := 224) (by decide +kernel) (by decide +kernel)
theorem fl_X11_185 : Cond.fieldLink RX11 185 (TX6 5).1 (TX6 5).2.1 (TX6 5).2.2.1 ∈ lw_gd := xm (i := 225) (by decide +kernel) (by decide +kernel)
theorem fl_X6_29 : Cond.fieldLink RX6 29 (TX6 6).1 (TX6 6).2.1 (TX6 6).2.2.1 ∈ lw_gd := xm (i := 226) (by decide +kernel) (by decide +kernel)
theorem fl_X6_54 : Cond.fieldLink RX6 54 (TX6 7).1 (TX6 7).2.1 (TX6 7).2.2.1 ∈ lw_gd := xm (i := 227) (by decide +kernel) (by decide +kernel)
theorem fl_X11_168 : Cond.fieldLink RX11 168 (TX6 7).1 (TX6 7).2.1 (TX6 7).2.2.1 ∈ lw_gd := xm (i := 228) (by decide +kernel) (by decide +kernel)
theorem fl_X6_58 : Cond.fieldLink RX6 58 (TX6 8).1 (TX6 8).2.1 (TX6 8).2.2.1 ∈ lw_gd := xm (i := 229) (by decide +kernel) (by decide +kernel)
theorem fl_X11_193 : Cond.fieldLink RX11 193 (TX6 8).1 (TX6 8).2.1 (TX6 8).2.2.1 ∈ lw_gd := xm (i := 230) (by decide +kernel) (by decide +kernel)
theorem fl_X6_61 : Cond.fieldLink RX6 61 (TX6 9).1 (TX6 9).2.1 (TX6 9).2.2.1 ∈ lw_gd := xm (i := 231) (by decide +kernel) (by decide +kernel)
theorem fl_X11_196 : Cond.fieldLink RX11 196 (TX6 9).1 (TX6 9).2.1 (TX6 9).2.2.1 ∈ lw_gd := xm (i := 232) (by decide +kernel) (by decide +kernel)
theorem fl_X6_64 : Cond.fieldLink RX6 64 (TX6 10).1 (TX6 10).2.1 (TX6 10).2.2.1 ∈ lw_gd := xm (i := 233) (by decide +kernel) (by decide +kernel)
theorem fl_X11_199 : Cond.fieldLink RX11 199 (TX6 10).1 (TX6 10).2.1 (TX6 10).2.2.1 ∈ lw_gd := xm (i := 234) (by decide +kernel) (by decide +kernel)
theorem fl_X6_67 : Cond.fieldLink RX6 67 (TX6 11).1 (TX6 11).2.1 (TX6 11).2.2.1 ∈ lw_gd := xm (i := 235) (by decide +kernel) (by decide +kernel)
theorem fl_X11_208 : Cond.fieldLink RX11 208 (TX6 11).1 (TX6 11).2.1 (TX6 11).2.2.1 ∈ lw_gd := xm (i := 236) (by decide +kernel) (by decide +kernel)
theorem fl_X6_71 : Cond.fieldLink RX6 71 (TX6 12).1 (TX6 12).2.1 (TX6 12).2.2.1 ∈ lw_gd := xm (i := 237) (by decide +kernel) (by decide +kernel)
theorem fl_X11_224 : Cond.fieldLink RX11 224 (TX6 12).1 (TX6 12).2.1 (TX6 12).2.2.1 ∈ lw_gd := xm (i := 238) (by decide +kernel) (by decide +kernel)
theorem fl_X6_74 : Cond.fieldLink RX6 74 (TX6 13).1 (TX6 13).2.1 (TX6 13).2.2.1 ∈ lw_gd := xm (i := 239) (by decide +kernel) (by decide +kernel)
theorem fl_X11_227 : Cond.fieldLink RX11 227 (TX6 13).1 (TX6 13).2.1 (TX6 13).2.2.1 ∈ lw_gd := xm (i := 240) (by decide +kernel) (by decide +kernel)
theorem fl_X6_77 : Cond.fieldLink RX6 77 (TX6 14).1 (TX6 14).2.1 (TX6 14).2.2.1 ∈ lw_gd := xm (i := 241) (by decide +kernel) (by decide +kernel)
theorem fl_X6_80 : Cond.fieldLink RX6 80 (TX6 15).1 (TX6 15).2.1 (TX6 15).2.2.1 ∈ lw_gd := xm (i := 242) (by decide +kernel) (by decide +kernel)
theorem fl_X6_96 : Cond.fieldLink RX6 96 (TX6 16).1 (TX6 16).2.1 (TX6 16).2.2.1 ∈ lw_gd := xm (i := 243) (by decide +kernel) (by decide +kernel)
theorem fl_X6_99 : Cond.fieldLink RX6 99 (TX6 17).1 (TX6 17).2.1 (TX6 17).2.2.1 ∈ lw_gd := xm (i := 244) (by decide +kernel) (by decide +kernel)
theorem fl_X6_102 : Cond.fieldLink RX6 102 (TX6 18).1 (TX6 18).2.1 (TX6 18).2.2.1 ∈ lw_gd := xm (i := 245) (by decide +kernel) (by decide +kernel)
theorem fl_X1_9 : Cond.fieldLink RX1 9 (TX1 0).1 (TX1 0).2.1 (TX1 0).2.2.1 ∈ lw_gd := xm (i := 296) (by decide +kernel) (by decide +kernel)
theorem fl_X1_15 : Cond.fieldLink RX1 15 (TX1 1).1 (TX1 1).2.1 (TX1 1).2.2.1 ∈ lw_gd := xm (i := 297) (by decide +kernel) (by decide +kernel)
theorem fl_X9_9 : Cond.fieldLink RX9 9 (TX9 0).1 (TX9 0).2.1 (TX9 0).2.2.1 ∈ lw_gd := xm (i := 309) (by decide +kernel) (by decide +kernel)
theorem fl_X9_15 : Cond.fieldLink RX9 15 (TX9 1).1 (TX9 1).2.1 (TX9 1).2.2.1 ∈ lw_gd := xm (i := 310) (by decide +kernel) (by decide +kernel)
theorem fl_X9_18 : Cond.fieldLink RX9 18 (TX9 2).1 (TX9 2).2.1 (TX9 2).2.2.1 ∈ lw_gd := xm (i := 311) (by decide +kernel) (by decide +kernel)
theorem fl_X9_22 : Cond.fieldLink RX9 22 (TX9 3).1 (TX9 3).2.1 (TX9 3).2.2.1 ∈ lw_gd := xm (i := 312) (by decide +kernel) (by decide +kernel)
theorem fl_X3_7 : Cond.fieldLink RX3 7 (TX3 0).1 (TX3 0).2.1 (TX3 0).2.2.1 ∈ lw_gd := xm (i := 329) (by decide +kernel) (by decide +kernel)
theorem fl_X11_18 : Cond.fieldLink RX11 18 (TX11 0).1 (TX11 0).2.1 (TX11 0).2.2.1 ∈ lw_gd := xm (i := 333) (by decide +kernel) (by decide +kernel)
theorem fl_X11_24 : Cond.fieldLink RX11 24 (TX11 1).1 (TX11 1).2.1 (TX11 1).2.2.1 ∈ lw_gd := xm (i := 334) (by decide +kernel) (by decide +kernel)
theorem fl_X11_31 : Cond.fieldLink RX11 31 (TX11 2).1 (TX11 2).2.1 (TX11 2).2.2.1 ∈ lw_gd := xm (i := 335) (by decide +kernel) (by decide +kernel)
theorem fl_X11_38 : Cond.fieldLink RX11 38 (TX11 3).1 (TX11 3).2.1 (TX11 3).2.2.1 ∈ lw_gd := xm (i := 336) (by decide +kernel) (by decide +kernel)
theorem fl_X11_47 : Cond.fieldLink RX11 47 (TX11 4).1 (TX11 4).2.1 (TX11 4).2.2.1 ∈ lw_gd := xm (i := 337) (by decide +kernel) (by decide +kernel)
theorem fl_X11_51 : Cond.fieldLink RX11 51 (TX11 5).1 (TX11 5).2.1 (TX11 5).2.2.1 ∈ lw_gd := xm (i := 338) (by decide +kernel) (by decide +kernel)
theorem fl_X11_54 : Cond.fieldLink RX11 54 (TX11 6).1 (TX11 6).2.1 (TX11 6).2.2.1 ∈ lw_gd := xm (i := 339) (by decide +kernel) (by decide +kernel)
theorem fl_X11_60 : Cond.fieldLink RX11 60 (TX11 7).1 (TX11 7).2.1 (TX11 7).2.2.1 ∈ lw_gd := xm (i := 340) (by decide +kernel) (by decide +kernel)
theorem fl_X11_64 : Cond.fieldLink RX11 64 (TX11 8).1 (TX11 8).2.1 (TX11 8).2.2.1 ∈ lw_gd := xm (i := 341) (by decide +kernel) (by decide +kernel)
theorem fl_X11_70 : Cond.fieldLink RX11 70 (TX11 9).1 (TX11 9).2.1 (TX11 9).2.2.1 ∈ lw_gd := xm (i := 342) (by decide +kernel) (by decide +kernel)
theorem fl_X11_77 : Cond.fieldLink RX11 77 (TX11 10).1 (TX11 10).2.1 (TX11 10).2.2.1 ∈ lw_gd := xm (i := 343) (by decide +kernel) (by decide +kernel)
theorem fl_X11_84 : Cond.fieldLink RX11 84 (TX11 11).1 (TX11 11).2.1 (TX11 11).2.2.1 ∈ lw_gd := xm (i := 344) (by decide +kernel) (by decide +kernel)
theorem fl_X11_151 : Cond.fieldLink RX11 151 RX11 (xsn 0) "[I" ∈ lw_gd := xm (i := 505) (by decide +kernel) (by decide +kernel)
theorem fl_X11_154 : Cond.fieldLink RX11 154 RX11 (xsn 1) "[I" ∈ lw_gd := xm (i := 507) (by decide +kernel) (by decide +kernel)
theorem fl_X12_1 : Cond.fieldLink RX12 1 (TX12 0).1 (TX12 0).2.1 (TX12 0).2.2.1 ∈ lw_gd := xm (i := 989) (by decide +kernel) (by decide +kernel)
theorem fl_X12_13 : Cond.fieldLink RX12 13 (TX12 1).1 (TX12 1).2.1 (TX12 1).2.2.1 ∈ lw_gd := xm (i := 990) (by decide +kernel) (by decide +kernel)
theorem fl_X12_17 : Cond.fieldLink RX12 17 (TX12 2).1 (TX12 2).2.1 (TX12 2).2.2.1 ∈ lw_gd := xm (i := 991) (by decide +kernel) (by decide +kernel)
theorem fl_X12_20 : Cond.fieldLink RX12 20 (TX12 3).1 (TX12 3).2.1 (TX12 3).2.2.1 ∈ lw_gd := xm (i := 992) (by decide +kernel) (by decide +kernel)
theorem fl_X12_23 : Cond.fieldLink RX12 23 (TX12 4).1 (TX12 4).2.1 (TX12 4).2.2.1 ∈ lw_gd := xm (i := 993) (by decide +kernel) (by decide +kernel)
theorem fl_X12_26 : Cond.fieldLink RX12 26 (TX12 5).1 (TX12 5).2.1 (TX12 5).2.2.1 ∈ lw_gd := xm (i := 994) (by decide +kernel) (by decide +kernel)
theorem fl_X12_64 : Cond.fieldLink RX12 64 (TX12 6).1 (TX12 6).2.1 (TX12 6).2.2.1 ∈ lw_gd := xm (i := 995) (by decide +kernel) (by decide +kernel)
theorem fl_X12_109 : Cond.fieldLink RX12 109 (TX12 7).1 (TX12 7).2.1 (TX12 7).2.2.1 ∈ lw_gd := xm (i := 996) (by decide +kernel) (by decide +kernel)
theorem fl_X12_103 : Cond.fieldLink RX12 103 (TX12 8).1 (TX12 8).2.1 (TX12 8).2.2.1 ∈ lw_gd := xm (i := 997) (by decide +kernel) (by decide +kernel)
theorem fl_X12_106 : Cond.fieldLink RX12 106 (TX12 9).1 (TX12 9).2.1 (TX12 9).2.2.1 ∈ lw_gd := xm (i := 998) (by decide +kernel) (by decide +kernel)
theorem fl_X12_29 : Cond.fieldLink RX12 29 (TX12 10).1 (TX12 10).2.1 (TX12 10).2.2.1 ∈ lw_gd := xm (i := 999) (by decide +kernel) (by decide +kernel)
theorem fl_X12_32 : Cond.fieldLink RX12 32 (TX12 11).1 (TX12 11).2.1 (TX12 11).2.2.1 ∈ lw_gd := xm (i := 1000) (by decide +kernel) (by decide +kernel)
theorem fl_X12_35 : Cond.fieldLink RX12 35 (TX12 12).1 (TX12 12).2.1 (TX12 12).2.2.1 ∈ lw_gd := xm (i := 1001) (by decide +kernel) (by decide +kernel)
theorem fl_X12_38 : Cond.fieldLink RX12 38 (TX12 13).1 (TX12 13).2.1 (TX12 13).2.2.1 ∈ lw_gd := xm (i := 1002) (by decide +kernel) (by decide +kernel)
theorem fl_X12_41 : Cond.fieldLink RX12 41 (TX12 14).1 (TX12 14).2.1 (TX12 14).2.2.1 ∈ lw_gd := xm (i := 1003) (by decide +kernel) (by decide +kernel)
theorem fl_X12_160 : Cond.fieldLink RX12 160 (TX12 15).1 (TX12 15).2.1 (TX12 15).2.2.1 ∈ lw_gd := xm (i := 1004) (by decide +kernel) (by decide +kernel)
theorem fl_X12_44 : Cond.fieldLink RX12 44 (TX12 16).1 (TX12 16).2.1 (TX12 16).2.2.1 ∈ lw_gd := xm (i := 1005) (by decide +kernel) (by decide +kernel)
theorem fl_X12_48 : Cond.fieldLink RX12 48 (TX12 17).1 (TX12 17).2.1 (TX12 17).2.2.1 ∈ lw_gd := xm (i := 1006) (by decide +kernel) (by decide +kernel)
theorem fl_X12_51 : Cond.fieldLink RX12 51 (TX12 18).1 (TX12 18).2.1 (TX12 18).2.2.1 ∈ lw_gd := xm (i := 1007) (by decide +kernel) (by decide +kernel)
theorem fl_X12_55 : Cond.fieldLink RX12 55 (TX12 19).1 (TX12 19).2.1 (TX12 19).2.2.1 ∈ lw_gd := xm (i := 1008) (by decide +kernel) (by decide +kernel)
theorem fl_X12_58 : Cond.fieldLink RX12 58 (TX12 20).1 (TX12 20).2.1 (TX12 20).2.2.1 ∈ lw_gd := xm (i := 1009) (by decide +kernel) (by decide +kernel)
theorem fl_X12_61 : Cond.fieldLink RX12 61 (TX12 21).1 (TX12 21).2.1 (TX12 21).2.2.1 ∈ lw_gd := xm (i := 1010) (by decide +kernel) (by decide +kernel)
theorem cl_L_7 : Cond.classLink RL 7 RX11 ∈ lw_gd := xm (i := 74) (by decide +kernel) (by decide +kernel)
theorem cl_X11_14 : Cond.classLink RX11 14 "[I" ∈ lw_gd := xm (i := 90) (by decide +kernel) (by decide +kernel)
theorem cl_X11_21 : Cond.classLink RX11 21 RX4 ∈ lw_gd := xm (i := 91) (by decide +kernel) (by decide +kernel)
theorem cl_X11_28 : Cond.classLink RX11 28 RX8 ∈ lw_gd := xm (i := 111) (by decide +kernel) (by decide +kernel)
theorem cl_X8_9 : Cond.classLink RX8 9 RX2 ∈ lw_gd := xm (i := 117) (by decide +kernel) (by decide +kernel)
theorem cl_X11_35 : Cond.classLink RX11 35 RX5 ∈ lw_gd := xm (i := 142) (by decide +kernel) (by decide +kernel)
theorem cl_X5_9 : Cond.classLink RX5 9 RX7 ∈ lw_gd := xm (i := 148) (by decide +kernel) (by decide +kernel)
theorem cl_X11_42 : Cond.classLink RX11 42 RX6 ∈ lw_gd := xm (i := 191) (by decide +kernel) (by decide +kernel)
theorem cl_X6_15 : Cond.classLink RX6 15 RX10 ∈ lw_gd := xm (i := 197) (by decide +kernel) (by decide +kernel)
theorem cl_X6_22 : Cond.classLink RX6 22 RX2 ∈ lw_gd := xm (i := 214) (by decide +kernel) (by decide +kernel)
theorem cl_X11_57 : Cond.classLink RX11 57 RX10 ∈ lw_gd := xm (i := 285) (by decide +kernel) (by decide +kernel)
theorem cl_X11_67 : Cond.classLink RX11 67 RX1 ∈ lw_gd := xm (i := 287) (by decide +kernel) (by decide +kernel)
theorem cl_X11_74 : Cond.classLink RX11 74 RX9 ∈ lw_gd := xm (i := 303) (by decide +kernel) (by decide +kernel)
theorem cl_X11_81 : Cond.classLink RX11 81 RX3 ∈ lw_gd := xm (i := 323) (by decide +kernel) (by decide +kernel)
theorem cn_X11_104 : Cond.constant RX11 104 (1000003) ∈ lw_gd := xm (i := 398) (by decide +kernel) (by decide +kernel)
theorem cn_X8_33 : Cond.constant RX8 33 (1000003) ∈ lw_gd := xm (i := 410) (by decide +kernel) (by decide +kernel)
theorem cn_X2_17 : Cond.constantLong RX2 17 (8796093022207) ∈ lw_gd := xm (i := 431) (by decide +kernel) (by decide +kernel)
theorem cn_X10_22 : Cond.constantLong RX10 22 (1099511627775) ∈ lw_gd := xm (i := 536) (by decide +kernel) (by decide +kernel)
theorem cn_X2_15 : Cond.constantLong RX2 15 (4294967295) ∈ lw_gd := xm (i := 652) (by decide +kernel) (by decide +kernel)
theorem cn_J13_314 : Cond.constantLong RJ13 314 (6148914691236517205) ∈ lw_gd := xm (i := 660) (by decide +kernel) (by decide +kernel)
theorem cn_J13_316 : Cond.constantLong RJ13 316 (3689348814741910323) ∈ lw_gd := xm (i := 661) (by decide +kernel) (by decide +kernel)
theorem cn_J13_318 : Cond.constantLong RJ13 318 (1085102592571150095) ∈ lw_gd := xm (i := 662) (by decide +kernel) (by decide +kernel)
theorem cn_X11_249 : Cond.constant RX11 249 (65535) ∈ lw_gd := xm (i := 727) (by decide +kernel) (by decide +kernel)
theorem cn_J6_265 : Cond.constant RJ6 265 (1431655765) ∈ lw_gd := xm (i := 892) (by decide +kernel) (by decide +kernel)
theorem cn_J6_266 : Cond.constant RJ6 266 (858993459) ∈ lw_gd := xm (i := 893) (by decide +kernel) (by decide +kernel)
theorem cn_J6_267 : Cond.constant RJ6 267 (252645135) ∈ lw_gd := xm (i := 894) (by decide +kernel) (by decide +kernel)
theorem cn_X9_40 : Cond.constantLong RX9 40 (256) ∈ lw_gd := xm (i := 903) (by decide +kernel) (by decide +kernel)
theorem cn_X11_330 : Cond.constantLong RX11 330 (-3) ∈ lw_gd := xm (i := 904) (by decide +kernel) (by decide +kernel)
theorem cn_X11_332 : Cond.constantLong RX11 332 (-2) ∈ lw_gd := xm (i := 909) (by decide +kernel) (by decide +kernel)
theorem cn_X0_24 : Cond.constantLong RX0 24 (1023) ∈ lw_gd := xm (i := 928) (by decide +kernel) (by decide +kernel)
theorem cn_X0_26 : Cond.constantDouble RX0 26 (4611686018427387904) ∈ lw_gd := xm (i := 929) (by decide +kernel) (by decide +kernel)
theorem cn_X0_28 : Cond.constantDouble RX0 28 (4841369599423283200) ∈ lw_gd := xm (i := 930) (by decide +kernel) (by decide +kernel)
theorem cn_X0_30 : Cond.constant RX0 30 (8388607) ∈ lw_gd := xm (i := 940) (by decide +kernel) (by decide +kernel)
theorem cn_X3_19 : Cond.constantLong RX3 19 (256) ∈ lw_gd := xm (i := 961) (by decide +kernel) (by decide +kernel)
theorem cn_X11_353 : Cond.constantLong RX11 353 (-5) ∈ lw_gd := xm (i := 966) (by decide +kernel) (by decide +kernel)
theorem cn_X3_21 : Cond.constantDouble RX3 21 (4643211215818981376) ∈ lw_gd := xm (i := 970) (by decide +kernel) (by decide +kernel)
theorem cn_X11_372 : Cond.constantLong RX11 372 (2) ∈ lw_gd := xm (i := 978) (by decide +kernel) (by decide +kernel)
theorem cl_L_10 : Cond.classLink RL 10 RX12 ∈ lw_gd := xm (i := 983) (by decide +kernel) (by decide +kernel)
theorem cn_X12_75 : Cond.constantLong RX12 75 (32) ∈ lw_gd := xm (i := 1073) (by decide +kernel) (by decide +kernel)
theorem cn_X12_91 : Cond.constantLong RX12 91 (255) ∈ lw_gd := xm (i := 1091) (by decide +kernel) (by decide +kernel)
theorem cn_X12_99 : Cond.constantLong RX12 99 (2) ∈ lw_gd := xm (i := 1118) (by decide +kernel) (by decide +kernel)
theorem cn_X12_101 : Cond.constantLong RX12 101 (31) ∈ lw_gd := xm (i := 1119) (by decide +kernel) (by decide +kernel)
theorem cn_X12_119 : Cond.constantLong RX12 119 (1000003) ∈ lw_gd := xm (i := 1124) (by decide +kernel) (by decide +kernel)
theorem cn_X12_125 : Cond.constant RX12 125 (1000003) ∈ lw_gd := xm (i := 1133) (by decide +kernel) (by decide +kernel)
theorem cn_X12_129 : Cond.constantLong RX12 129 (20) ∈ lw_gd := xm (i := 1146) (by decide +kernel) (by decide +kernel)
theorem cn_X12_134 : Cond.constantLong RX12 134 (400) ∈ lw_gd := xm (i := 1159) (by decide +kernel) (by decide +kernel)
theorem cn_X12_136 : Cond.constantLong RX12 136 (2000) ∈ lw_gd := xm (i := 1168) (by decide +kernel) (by decide +kernel)
theorem cn_X12_138 : Cond.constantLong RX12 138 (1000) ∈ lw_gd := xm (i := 1169) (by decide +kernel) (by decide +kernel)
theorem cn_X12_140 : Cond.constantLong RX12 140 (6) ∈ lw_gd := xm (i := 1182) (by decide +kernel) (by decide +kernel)
theorem cn_X12_179 : Cond.constantLong RX12 179 (42) ∈ lw_gd := xm (i := 1187) (by decide +kernel) (by decide +kernel)
theorem cn_X12_181 : Cond.constantLong RX12 181 (2047) ∈ lw_gd := xm (i := 1192) (by decide +kernel) (by decide +kernel)
theorem cn_X12_186 : Cond.constantLong RX12 186 (9600) ∈ lw_gd := xm (i := 1197) (by decide +kernel) (by decide +kernel)
theorem cn_X12_194 : Cond.constantLong RX12 194 (13) ∈ lw_gd := xm (i := 1269) (by decide +kernel) (by decide +kernel)
theorem cn_X12_207 : Cond.constantLong RX12 207 (3) ∈ lw_gd := xm (i := 1281) (by decide +kernel) (by decide +kernel)
theorem cn_X12_209 : Cond.constant RX12 209 (65535) ∈ lw_gd := xm (i := 1286) (by decide +kernel) (by decide +kernel)
theorem cn_X12_216 : Cond.constantLong RX12 216 (5) ∈ lw_gd := xm (i := 1323) (by decide +kernel) (by decide +kernel)
theorem cn_X12_224 : Cond.constantLong RX12 224 (40) ∈ lw_gd := xm (i := 1368) (by decide +kernel) (by decide +kernel)
theorem cn_X12_226 : Cond.constantLong RX12 226 (-3) ∈ lw_gd := xm (i := 1369) (by decide +kernel) (by decide +kernel)
theorem cn_X12_237 : Cond.constantLong RX12 237 (-2) ∈ lw_gd := xm (i := 1378) (by decide +kernel) (by decide +kernel)
theorem cn_X12_243 : Cond.constantLong RX12 243 (4) ∈ lw_gd := xm (i := 1386) (by decide +kernel) (by decide +kernel)
theorem cn_X12_231 : Cond.constantDouble RX12 231 (4611686018427387904) ∈ lw_gd := xm (i := 1393) (by decide +kernel) (by decide +kernel)
theorem cn_X12_258 : Cond.constantLong RX12 258 (7) ∈ lw_gd := xm (i := 1398) (by decide +kernel) (by decide +kernel)
theorem cn_X12_249 : Cond.constantLong RX12 249 (256) ∈ lw_gd := xm (i := 1399) (by decide +kernel) (by decide +kernel)
theorem cn_X12_267 : Cond.constantLong RX12 267 (-5) ∈ lw_gd := xm (i := 1419) (by decide +kernel) (by decide +kernel)
theorem cn_X12_269 : Cond.constantDouble RX12 269 (4643211215818981376) ∈ lw_gd := xm (i := 1420) (by decide +kernel) (by decide +kernel)
theorem cn_X12_271 : Cond.constantLong RX12 271 (10) ∈ lw_gd := xm (i := 1429) (by decide +kernel) (by decide +kernel)
theorem cn_X12_273 : Cond.constantLong RX12 273 (16) ∈ lw_gd := xm (i := 1430) (by decide +kernel) (by decide +kernel)
theorem co_X0_ofRatio : Cond.code yX0_ofRatio cX0_ofRatio 7 (some .long) ∈ lw_gd := xm (i := 924) (by decide +kernel) (by decide +kernel)
theorem mi_X0_ofRatio : xMi yX0_ofRatio cX0_ofRatio 7 (some .long) 3 := ⟨co_X0_ofRatio, xm (i := 73) (by decide +kernel) (by decide +kernel), by decide +kernel, by decide +kernel, by decide⟩
theorem st_X0_ofRatio : Cond.static yX0_ofRatio ∈ lw_gd := xm (i := 923) (by decide +kernel) (by decide +kernel)
theorem co_X0_upper : Cond.code yX0_upper cX0_upper 2 (some .int) ∈ lw_gd := xm (i := 933) (by decide +kernel) (by decide +kernel)
theorem mi_X0_upper : xMi yX0_upper cX0_upper 2 (some .int) 1 := ⟨co_X0_upper, xm (i := 73) (by decide +kernel) (by decide +kernel), by decide +kernel, by decide +kernel, by decide⟩
theorem st_X0_upper : Cond.static yX0_upper ∈ lw_gd := xm (i := 932) (by decide +kernel) (by decide +kernel)
theorem co_X0_lower : Cond.code yX0_lower cX0_lower 2 (some .int) ∈ lw_gd := xm (i := 936) (by decide +kernel) (by decide +kernel)
theorem mi_X0_lower : xMi yX0_lower cX0_lower 2 (some .int) 1 := ⟨co_X0_lower, xm (i := 73) (by decide +kernel) (by decide +kernel), by decide +kernel, by decide +kernel, by decide⟩
theorem st_X0_lower : Cond.static yX0_lower ∈ lw_gd := xm (i := 935) (by decide +kernel) (by decide +kernel)
theorem co_X0_ofDouble : Cond.code yX0_ofDouble cX0_ofDouble 7 (some .long) ∈ lw_gd := xm (i := 927) (by decide +kernel) (by decide +kernel)
theorem mi_X0_ofDouble : xMi yX0_ofDouble cX0_ofDouble 7 (some .long) 1 := ⟨co_X0_ofDouble, xm (i := 73) (by decide +kernel) (by decide +kernel), by decide +kernel, by decide +kernel, by decide⟩
theorem st_X0_ofDouble : Cond.static yX0_ofDouble ∈ lw_gd := xm (i := 926) (by decide +kernel) (by decide +kernel)
theorem co_X0_ofFloat : Cond.code yX0_ofFloat cX0_ofFloat 4 (some .int) ∈ lw_gd := xm (i := 939) (by decide +kernel) (by decide +kernel)
theorem mi_X0_ofFloat : xMi yX0_ofFloat cX0_ofFloat 4 (some .int) 1 := ⟨co_X0_ofFloat, xm (i := 73) (by decide +kernel) (by decide +kernel), by decide +kernel, by decide +kernel, by decide⟩
theorem st_X0_ofFloat : Cond.static yX0_ofFloat ∈ lw_gd := xm (i := 938) (by decide +kernel) (by decide +kernel)
theorem co_X1_init : Cond.code yX1_init cX1_init 3 none ∈ lw_gd := xm (i := 291) (by decide +kernel) (by decide +kernel)
theorem mi_X1_init : xMi yX1_init cX1_init 3 none 0 := ⟨co_X1_init, xm (i := 65) (by decide +kernel) (by decide +kernel), by decide +kernel, by decide +kernel, by decide⟩
theorem im_X1_init : Cond.instanceMethod yX1_init ∈ lw_gd := xm (i := 290) (by decide +kernel) (by decide +kernel)
theorem co_X1_timesX : Cond.code yX1_timesX cX1_timesX 2 (some .int) ∈ lw_gd := xm (i := 295) (by decide +kernel) (by decide +kernel)
theorem mi_X1_timesX : xMi yX1_timesX cX1_timesX 2 (some .int) 1 := ⟨co_X1_timesX, xm (i := 65) (by decide +kernel) (by decide +kernel), by decide +kernel, by decide +kernel, by decide⟩
theorem st_X1_timesX : Cond.static yX1_timesX ∈ lw_gd := xm (i := 294) (by decide +kernel) (by decide +kernel)
theorem co_X1_ofHeader : Cond.code yX1_ofHeader cX1_ofHeader 3 (some .int) ∈ lw_gd := xm (i := 418) (by decide +kernel) (by decide +kernel)
theorem mi_X1_ofHeader : xMi yX1_ofHeader cX1_ofHeader 3 (some .int) 1 := ⟨co_X1_ofHeader, xm (i := 65) (by decide +kernel) (by decide +kernel), by decide +kernel, by decide +kernel, by decide⟩
theorem st_X1_ofHeader : Cond.static yX1_ofHeader ∈ lw_gd := xm (i := 417) (by decide +kernel) (by decide +kernel)
theorem co_X1_bitOf : Cond.code yX1_bitOf cX1_bitOf 3 (some .int) ∈ lw_gd := xm (i := 604) (by decide +kernel) (by decide +kernel)
theorem mi_X1_bitOf : xMi yX1_bitOf cX1_bitOf 3 (some .int) 1 := ⟨co_X1_bitOf, xm (i := 65) (by decide +kernel) (by decide +kernel), by decide +kernel, by decide +kernel, by decide⟩
theorem st_X1_bitOf : Cond.static yX1_bitOf ∈ lw_gd := xm (i := 603) (by decide +kernel) (by decide +kernel)
theorem co_X1_mendedHeader : Cond.code yX1_mendedHeader cX1_mendedHeader 2 (some .int) ∈ lw_gd := xm (i := 607) (by decide +kernel) (by decide +kernel)
theorem mi_X1_mendedHeader : xMi yX1_mendedHeader cX1_mendedHeader 2 (some .int) 2 := ⟨co_X1_mendedHeader, xm (i := 65) (by decide +kernel) (by decide +kernel), by decide +kernel, by decide +kernel, by decide⟩
theorem st_X1_mendedHeader : Cond.static yX1_mendedHeader ∈ lw_gd := xm (i := 606) (by decide +kernel) (by decide +kernel)
theorem co_X1_mendedCheck : Cond.code yX1_mendedCheck cX1_mendedCheck 2 (some .int) ∈ lw_gd := xm (i := 872) (by decide +kernel) (by decide +kernel)
theorem mi_X1_mendedCheck : xMi yX1_mendedCheck cX1_mendedCheck 2 (some .int) 2 := ⟨co_X1_mendedCheck, xm (i := 65) (by decide +kernel) (by decide +kernel), by decide +kernel, by decide +kernel, by decide⟩
theorem st_X1_mendedCheck : Cond.static yX1_mendedCheck ∈ lw_gd := xm (i := 871) (by decide +kernel) (by decide +kernel)
theorem co_X1_shareOf : Cond.code yX1_shareOf cX1_shareOf 2 (some .int) ∈ lw_gd := xm (i := 848) (by decide +kernel) (by decide +kernel)
theorem mi_X1_shareOf : xMi yX1_shareOf cX1_shareOf 2 (some .int) 1 := ⟨co_X1_shareOf, xm (i := 65) (by decide +kernel) (by decide +kernel), by decide +kernel, by decide +kernel, by decide⟩
theorem im_X1_shareOf : Cond.instanceMethod yX1_shareOf ∈ lw_gd := xm (i := 846) (by decide +kernel) (by decide +kernel)
theorem se_X1_shareOf : Cond.selects yX1_shareOf.cls yX1_shareOf yX1_shareOf ∈ lw_gd := xm (i := 847) (by decide +kernel) (by decide +kernel)
theorem co_X1_pairOf : Cond.code yX1_pairOf cX1_pairOf 6 (some .int) ∈ lw_gd := xm (i := 844) (by decide +kernel) (by decide +kernel)
theorem mi_X1_pairOf : xMi yX1_pairOf cX1_pairOf 6 (some .int) 2 := ⟨co_X1_pairOf, xm (i := 65) (by decide +kernel) (by decide +kernel), by decide +kernel, by decide +kernel, by decide⟩
theorem im_X1_pairOf : Cond.instanceMethod yX1_pairOf ∈ lw_gd := xm (i := 842) (by decide +kernel) (by decide +kernel)
theorem se_X1_pairOf : Cond.selects yX1_pairOf.cls yX1_pairOf yX1_pairOf ∈ lw_gd := xm (i := 843) (by decide +kernel) (by decide +kernel)
theorem co_X1_fewestFor : Cond.code yX1_fewestFor cX1_fewestFor 3 (some .int) ∈ lw_gd := xm (i := 856) (by decide +kernel) (by decide +kernel)
theorem mi_X1_fewestFor : xMi yX1_fewestFor cX1_fewestFor 3 (some .int) 1 := ⟨co_X1_fewestFor, xm (i := 65) (by decide +kernel) (by decide +kernel), by decide +kernel, by decide +kernel, by decide⟩
theorem im_X1_fewestFor : Cond.instanceMethod yX1_fewestFor ∈ lw_gd := xm (i := 854) (by decide +kernel) (by decide +kernel)
theorem se_X1_fewestFor : Cond.selects yX1_fewestFor.cls yX1_fewestFor yX1_fewestFor ∈ lw_gd := xm (i := 855) (by decide +kernel) (by decide +kernel)
theorem co_X1_chosen : Cond.code yX1_chosen cX1_chosen 2 (some .int) ∈ lw_gd := xm (i := 864) (by decide +kernel) (by decide +kernel)
theorem mi_X1_chosen : xMi yX1_chosen cX1_chosen 2 (some .int) 1 := ⟨co_X1_chosen, xm (i := 65) (by decide +kernel) (by decide +kernel), by decide +kernel, by decide +kernel, by decide⟩
theorem im_X1_chosen : Cond.instanceMethod yX1_chosen ∈ lw_gd := xm (i := 862) (by decide +kernel) (by decide +kernel)
theorem se_X1_chosen : Cond.selects yX1_chosen.cls yX1_chosen yX1_chosen ∈ lw_gd := xm (i := 863) (by decide +kernel) (by decide +kernel)
theorem co_X1_canChoose : Cond.code yX1_canChoose cX1_canChoose 7 (some .boolean) ∈ lw_gd := xm (i := 859) (by decide +kernel) (by decide +kernel)
theorem mi_X1_canChoose : xMi yX1_canChoose cX1_canChoose 7 (some .boolean) 6 := ⟨co_X1_canChoose, xm (i := 65) (by decide +kernel) (by decide +kernel), by decide +kernel, by decide +kernel, by decide⟩
theorem st_X1_canChoose : Cond.static yX1_canChoose ∈ lw_gd := xm (i := 858) (by decide +kernel) (by decide +kernel)
theorem co_X2_init : Cond.code yX2_init cX2_init 1 none ∈ lw_gd := xm (i := 121) (by decide +kernel) (by decide +kernel)
theorem mi_X2_init : xMi yX2_init cX2_init 1 none 0 := ⟨co_X2_init, xm (i := 59) (by decide +kernel) (by decide +kernel), by decide +kernel, by decide +kernel, by decide⟩
theorem im_X2_init : Cond.instanceMethod yX2_init ∈ lw_gd := xm (i := 120) (by decide +kernel) (by decide +kernel)
theorem co_X2_clear : Cond.code yX2_clear cX2_clear 1 none ∈ lw_gd := xm (i := 500) (by decide +kernel) (by decide +kernel)
theorem mi_X2_clear : xMi yX2_clear cX2_clear 1 none 0 := ⟨co_X2_clear, xm (i := 59) (by decide +kernel) (by decide +kernel), by decide +kernel, by decide +kernel, by decide⟩
theorem im_X2_clear : Cond.instanceMethod yX2_clear ∈ lw_gd := xm (i := 498) (by decide +kernel) (by decide +kernel)
theorem se_X2_clear : Cond.selects yX2_clear.cls yX2_clear yX2_clear ∈ lw_gd := xm (i := 499) (by decide +kernel) (by decide +kernel)
theorem co_X2_mirror : Cond.code yX2_mirror cX2_mirror 2 none ∈ lw_gd := xm (i := 758) (by decide +kernel) (by decide +kernel)
theorem mi_X2_mirror : xMi yX2_mirror cX2_mirror 2 none 1 := ⟨co_X2_mirror, xm (i := 59) (by decide +kernel) (by decide +kernel), by decide +kernel, by decide +kernel, by decide⟩
theorem im_X2_mirror : Cond.instanceMethod yX2_mirror ∈ lw_gd := xm (i := 756) (by decide +kernel) (by decide +kernel)
theorem se_X2_mirror : Cond.selects yX2_mirror.cls yX2_mirror yX2_mirror ∈ lw_gd := xm (i := 757) (by decide +kernel) (by decide +kernel)
theorem co_X2_set : Cond.code yX2_set cX2_set 3 none ∈ lw_gd := xm (i := 651) (by decide +kernel) (by decide +kernel)
theorem mi_X2_set : xMi yX2_set cX2_set 3 none 2 := ⟨co_X2_set, xm (i := 59) (by decide +kernel) (by decide +kernel), by decide +kernel, by decide +kernel, by decide⟩
theorem im_X2_set : Cond.instanceMethod yX2_set ∈ lw_gd := xm (i := 649) (by decide +kernel) (by decide +kernel)
theorem se_X2_set : Cond.selects yX2_set.cls yX2_set yX2_set ∈ lw_gd := xm (i := 650) (by decide +kernel) (by decide +kernel)
theorem co_X2_oldest : Cond.code yX2_oldest cX2_oldest 1 (some .int) ∈ lw_gd := xm (i := 426) (by decide +kernel) (by decide +kernel)
theorem mi_X2_oldest : xMi yX2_oldest cX2_oldest 1 (some .int) 0 := ⟨co_X2_oldest, xm (i := 59) (by decide +kernel) (by decide +kernel), by decide +kernel, by decide +kernel, by decide⟩
theorem im_X2_oldest : Cond.instanceMethod yX2_oldest ∈ lw_gd := xm (i := 424) (by decide +kernel) (by decide +kernel)
theorem se_X2_oldest : Cond.selects yX2_oldest.cls yX2_oldest yX2_oldest ∈ lw_gd := xm (i := 425) (by decide +kernel) (by decide +kernel)
theorem co_X2_bitAgo : Cond.code yX2_bitAgo cX2_bitAgo 2 (some .int) ∈ lw_gd := xm (i := 643) (by decide +kernel) (by decide +kernel)
theorem mi_X2_bitAgo : xMi yX2_bitAgo cX2_bitAgo 2 (some .int) 1 := ⟨co_X2_bitAgo, xm (i := 59) (by decide +kernel) (by decide +kernel), by decide +kernel, by decide +kernel, by decide⟩
theorem im_X2_bitAgo : Cond.instanceMethod yX2_bitAgo ∈ lw_gd := xm (i := 641) (by decide +kernel) (by decide +kernel)
theorem se_X2_bitAgo : Cond.selects yX2_bitAgo.cls yX2_bitAgo yX2_bitAgo ∈ lw_gd := xm (i := 642) (by decide +kernel) (by decide +kernel)
theorem co_X2_push : Cond.code yX2_push cX2_push 2 none ∈ lw_gd := xm (i := 430) (by decide +kernel) (by decide +kernel)
theorem mi_X2_push : xMi yX2_push cX2_push 2 none 1 := ⟨co_X2_push, xm (i := 59) (by decide +kernel) (by decide +kernel), by decide +kernel, by decide +kernel, by decide⟩
theorem im_X2_push : Cond.instanceMethod yX2_push ∈ lw_gd := xm (i := 428) (by decide +kernel) (by decide +kernel)
theorem se_X2_push : Cond.selects yX2_push.cls yX2_push yX2_push ∈ lw_gd := xm (i := 429) (by decide +kernel) (by decide +kernel)
theorem co_X2_ones : Cond.code yX2_ones cX2_ones 1 (some .int) ∈ lw_gd := xm (i := 656) (by decide +kernel) (by decide +kernel)
theorem mi_X2_ones : xMi yX2_ones cX2_ones 1 (some .int) 0 := ⟨co_X2_ones, xm (i := 59) (by decide +kernel) (by decide +kernel), by decide +kernel, by decide +kernel, by decide⟩
theorem im_X2_ones : Cond.instanceMethod yX2_ones ∈ lw_gd := xm (i := 654) (by decide +kernel) (by decide +kernel)
theorem se_X2_ones : Cond.selects yX2_ones.cls yX2_ones yX2_ones ∈ lw_gd := xm (i := 655) (by decide +kernel) (by decide +kernel)
theorem co_X3_init : Cond.code yX3_init cX3_init 1 none ∈ lw_gd := xm (i := 327) (by decide +kernel) (by decide +kernel)
theorem mi_X3_init : xMi yX3_init cX3_init 1 none 0 := ⟨co_X3_init, xm (i := 67) (by decide +kernel) (by decide +kernel), by decide +kernel, by decide +kernel, by decide⟩
theorem im_X3_init : Cond.instanceMethod yX3_init ∈ lw_gd := xm (i := 326) (by decide +kernel) (by decide +kernel)
theorem co_X3_waysUp : Cond.code yX3_waysUp cX3_waysUp 11 (some .long) ∈ lw_gd := xm (i := 959) (by decide +kernel) (by decide +kernel)
theorem mi_X3_waysUp : xMi yX3_waysUp cX3_waysUp 11 (some .long) 4 := ⟨co_X3_waysUp, xm (i := 67) (by decide +kernel) (by decide +kernel), by decide +kernel, by decide +kernel, by decide⟩
theorem im_X3_waysUp : Cond.instanceMethod yX3_waysUp ∈ lw_gd := xm (i := 957) (by decide +kernel) (by decide +kernel)
theorem se_X3_waysUp : Cond.selects yX3_waysUp.cls yX3_waysUp yX3_waysUp ∈ lw_gd := xm (i := 958) (by decide +kernel) (by decide +kernel)
theorem co_X3_meanClimb : Cond.code yX3_meanClimb cX3_meanClimb 7 (some .double) ∈ lw_gd := xm (i := 969) (by decide +kernel) (by decide +kernel)
theorem mi_X3_meanClimb : xMi yX3_meanClimb cX3_meanClimb 7 (some .double) 2 := ⟨co_X3_meanClimb, xm (i := 67) (by decide +kernel) (by decide +kernel), by decide +kernel, by decide +kernel, by decide⟩
theorem st_X3_meanClimb : Cond.static yX3_meanClimb ∈ lw_gd := xm (i := 968) (by decide +kernel) (by decide +kernel)
theorem co_X4_init : Cond.code yX4_init cX4_init 1 none ∈ lw_gd := xm (i := 95) (by decide +kernel) (by decide +kernel)
theorem mi_X4_init : xMi yX4_init cX4_init 1 none 0 := ⟨co_X4_init, xm (i := 57) (by decide +kernel) (by decide +kernel), by decide +kernel, by decide +kernel, by decide⟩
theorem im_X4_init : Cond.instanceMethod yX4_init ∈ lw_gd := xm (i := 94) (by decide +kernel) (by decide +kernel)
theorem co_X4_has : Cond.code yX4_has cX4_has 2 (some .boolean) ∈ lw_gd := xm (i := 447) (by decide +kernel) (by decide +kernel)
theorem mi_X4_has : xMi yX4_has cX4_has 2 (some .boolean) 1 := ⟨co_X4_has, xm (i := 57) (by decide +kernel) (by decide +kernel), by decide +kernel, by decide +kernel, by decide⟩
theorem im_X4_has : Cond.instanceMethod yX4_has ∈ lw_gd := xm (i := 445) (by decide +kernel) (by decide +kernel)
theorem se_X4_has : Cond.selects yX4_has.cls yX4_has yX4_has ∈ lw_gd := xm (i := 446) (by decide +kernel) (by decide +kernel)
theorem co_X4_left : Cond.code yX4_left cX4_left 1 (some .int) ∈ lw_gd := xm (i := 778) (by decide +kernel) (by decide +kernel)
theorem mi_X4_left : xMi yX4_left cX4_left 1 (some .int) 0 := ⟨co_X4_left, xm (i := 57) (by decide +kernel) (by decide +kernel), by decide +kernel, by decide +kernel, by decide⟩
theorem im_X4_left : Cond.instanceMethod yX4_left ∈ lw_gd := xm (i := 776) (by decide +kernel) (by decide +kernel)
theorem se_X4_left : Cond.selects yX4_left.cls yX4_left yX4_left ∈ lw_gd := xm (i := 777) (by decide +kernel) (by decide +kernel)
theorem co_X4_hasRoomFor : Cond.code yX4_hasRoomFor cX4_hasRoomFor 2 (some .boolean) ∈ lw_gd := xm (i := 377) (by decide +kernel) (by decide +kernel)
theorem mi_X4_hasRoomFor : xMi yX4_hasRoomFor cX4_hasRoomFor 2 (some .boolean) 1 := ⟨co_X4_hasRoomFor, xm (i := 57) (by decide +kernel) (by decide +kernel), by decide +kernel, by decide +kernel, by decide⟩
theorem im_X4_hasRoomFor : Cond.instanceMethod yX4_hasRoomFor ∈ lw_gd := xm (i := 375) (by decide +kernel) (by decide +kernel)
theorem se_X4_hasRoomFor : Cond.selects yX4_hasRoomFor.cls yX4_hasRoomFor yX4_hasRoomFor ∈ lw_gd := xm (i := 376) (by decide +kernel) (by decide +kernel)
theorem co_X4_bitAt : Cond.code yX4_bitAt cX4_bitAt 2 (some .int) ∈ lw_gd := xm (i := 456) (by decide +kernel) (by decide +kernel)
theorem mi_X4_bitAt : xMi yX4_bitAt cX4_bitAt 2 (some .int) 1 := ⟨co_X4_bitAt, xm (i := 57) (by decide +kernel) (by decide +kernel), by decide +kernel, by decide +kernel, by decide⟩
theorem im_X4_bitAt : Cond.instanceMethod yX4_bitAt ∈ lw_gd := xm (i := 454) (by decide +kernel) (by decide +kernel)
theorem se_X4_bitAt : Cond.selects yX4_bitAt.cls yX4_bitAt yX4_bitAt ∈ lw_gd := xm (i := 455) (by decide +kernel) (by decide +kernel)
theorem co_X4_toggle : Cond.code yX4_toggle cX4_toggle 2 none ∈ lw_gd := xm (i := 451) (by decide +kernel) (by decide +kernel)
theorem mi_X4_toggle : xMi yX4_toggle cX4_toggle 2 none 1 := ⟨co_X4_toggle, xm (i := 57) (by decide +kernel) (by decide +kernel), by decide +kernel, by decide +kernel, by decide⟩
theorem im_X4_toggle : Cond.instanceMethod yX4_toggle ∈ lw_gd := xm (i := 449) (by decide +kernel) (by decide +kernel)
theorem se_X4_toggle : Cond.selects yX4_toggle.cls yX4_toggle yX4_toggle ∈ lw_gd := xm (i := 450) (by decide +kernel) (by decide +kernel)
theorem co_X4_append : Cond.code yX4_append cX4_append 3 none ∈ lw_gd := xm (i := 381) (by decide +kernel) (by decide +kernel)
theorem mi_X4_append : xMi yX4_append cX4_append 3 none 2 := ⟨co_X4_append, xm (i := 57) (by decide +kernel) (by decide +kernel), by decide +kernel, by decide +kernel, by decide⟩
theorem im_X4_append : Cond.instanceMethod yX4_append ∈ lw_gd := xm (i := 379) (by decide +kernel) (by decide +kernel)
theorem se_X4_append : Cond.selects yX4_append.cls yX4_append yX4_append ∈ lw_gd := xm (i := 380) (by decide +kernel) (by decide +kernel)
theorem co_X4_insert : Cond.code yX4_insert cX4_insert 4 none ∈ lw_gd := xm (i := 475) (by decide +kernel) (by decide +kernel)
theorem mi_X4_insert : xMi yX4_insert cX4_insert 4 none 3 := ⟨co_X4_insert, xm (i := 57) (by decide +kernel) (by decide +kernel), by decide +kernel, by decide +kernel, by decide⟩
theorem im_X4_insert : Cond.instanceMethod yX4_insert ∈ lw_gd := xm (i := 473) (by decide +kernel) (by decide +kernel)
theorem se_X4_insert : Cond.selects yX4_insert.cls yX4_insert yX4_insert ∈ lw_gd := xm (i := 474) (by decide +kernel) (by decide +kernel)
theorem co_X4_cut : Cond.code yX4_cut cX4_cut 3 none ∈ lw_gd := xm (i := 464) (by decide +kernel) (by decide +kernel)
theorem mi_X4_cut : xMi yX4_cut cX4_cut 3 none 2 := ⟨co_X4_cut, xm (i := 57) (by decide +kernel) (by decide +kernel), by decide +kernel, by decide +kernel, by decide⟩
theorem im_X4_cut : Cond.instanceMethod yX4_cut ∈ lw_gd := xm (i := 462) (by decide +kernel) (by decide +kernel)
theorem se_X4_cut : Cond.selects yX4_cut.cls yX4_cut yX4_cut ∈ lw_gd := xm (i := 463) (by decide +kernel) (by decide +kernel)
theorem co_X4_clear : Cond.code yX4_clear cX4_clear 1 none ∈ lw_gd := xm (i := 492) (by decide +kernel) (by decide +kernel)
theorem mi_X4_clear : xMi yX4_clear cX4_clear 1 none 0 := ⟨co_X4_clear, xm (i := 57) (by decide +kernel) (by decide +kernel), by decide +kernel, by decide +kernel, by decide⟩
theorem im_X4_clear : Cond.instanceMethod yX4_clear ∈ lw_gd := xm (i := 490) (by decide +kernel) (by decide +kernel)
theorem se_X4_clear : Cond.selects yX4_clear.cls yX4_clear yX4_clear ∈ lw_gd := xm (i := 491) (by decide +kernel) (by decide +kernel)
theorem co_X4_write : Cond.code yX4_write cX4_write 6 none ∈ lw_gd := xm (i := 386) (by decide +kernel) (by decide +kernel)
theorem mi_X4_write : xMi yX4_write cX4_write 6 none 3 := ⟨co_X4_write, xm (i := 57) (by decide +kernel) (by decide +kernel), by decide +kernel, by decide +kernel, by decide⟩
theorem im_X4_write : Cond.instanceMethod yX4_write ∈ lw_gd := xm (i := 385) (by decide +kernel) (by decide +kernel)
theorem se_X4_write : Cond.selects yX4_write.cls yX4_write yX4_write ∈ lw_gd := xm (i := 0) (by decide +kernel) (by decide +kernel)
theorem co_X5_init : Cond.code yX5_init cX5_init 1 none ∈ lw_gd := xm (i := 146) (by decide +kernel) (by decide +kernel)
theorem mi_X5_init : xMi yX5_init cX5_init 1 none 0 := ⟨co_X5_init, xm (i := 60) (by decide +kernel) (by decide +kernel), by decide +kernel, by decide +kernel, by decide⟩
theorem im_X5_init : Cond.instanceMethod yX5_init ∈ lw_gd := xm (i := 145) (by decide +kernel) (by decide +kernel)
theorem co_X5_clear : Cond.code yX5_clear cX5_clear 1 none ∈ lw_gd := xm (i := 631) (by decide +kernel) (by decide +kernel)
theorem mi_X5_clear : xMi yX5_clear cX5_clear 1 none 0 := ⟨co_X5_clear, xm (i := 60) (by decide +kernel) (by decide +kernel), by decide +kernel, by decide +kernel, by decide⟩
theorem im_X5_clear : Cond.instanceMethod yX5_clear ∈ lw_gd := xm (i := 629) (by decide +kernel) (by decide +kernel)
theorem se_X5_clear : Cond.selects yX5_clear.cls yX5_clear yX5_clear ∈ lw_gd := xm (i := 630) (by decide +kernel) (by decide +kernel)
theorem co_X5_loadStart : Cond.code yX5_loadStart cX5_loadStart 2 (some .int) ∈ lw_gd := xm (i := 711) (by decide +kernel) (by decide +kernel)
theorem mi_X5_loadStart : xMi yX5_loadStart cX5_loadStart 2 (some .int) 1 := ⟨co_X5_loadStart, xm (i := 60) (by decide +kernel) (by decide +kernel), by decide +kernel, by decide +kernel, by decide⟩
theorem im_X5_loadStart : Cond.instanceMethod yX5_loadStart ∈ lw_gd := xm (i := 709) (by decide +kernel) (by decide +kernel)
theorem se_X5_loadStart : Cond.selects yX5_loadStart.cls yX5_loadStart yX5_loadStart ∈ lw_gd := xm (i := 710) (by decide +kernel) (by decide +kernel)
theorem co_X5_loadByte : Cond.code yX5_loadByte cX5_loadByte 4 (some .int) ∈ lw_gd := xm (i := 721) (by decide +kernel) (by decide +kernel)
theorem mi_X5_loadByte : xMi yX5_loadByte cX5_loadByte 4 (some .int) 2 := ⟨co_X5_loadByte, xm (i := 60) (by decide +kernel) (by decide +kernel), by decide +kernel, by decide +kernel, by decide⟩
theorem im_X5_loadByte : Cond.instanceMethod yX5_loadByte ∈ lw_gd := xm (i := 719) (by decide +kernel) (by decide +kernel)
theorem se_X5_loadByte : Cond.selects yX5_loadByte.cls yX5_loadByte yX5_loadByte ∈ lw_gd := xm (i := 720) (by decide +kernel) (by decide +kernel)
theorem co_X5_addCell : Cond.code yX5_addCell cX5_addCell 6 none ∈ lw_gd := xm (i := 579) (by decide +kernel) (by decide +kernel)
theorem mi_X5_addCell : xMi yX5_addCell cX5_addCell 6 none 4 := ⟨co_X5_addCell, xm (i := 60) (by decide +kernel) (by decide +kernel), by decide +kernel, by decide +kernel, by decide⟩
theorem im_X5_addCell : Cond.instanceMethod yX5_addCell ∈ lw_gd := xm (i := 577) (by decide +kernel) (by decide +kernel)
theorem se_X5_addCell : Cond.selects yX5_addCell.cls yX5_addCell yX5_addCell ∈ lw_gd := xm (i := 578) (by decide +kernel) (by decide +kernel)
theorem co_X6_init : Cond.code yX6_init cX6_init 4 none ∈ lw_gd := xm (i := 195) (by decide +kernel) (by decide +kernel)
theorem mi_X6_init : xMi yX6_init cX6_init 4 none 3 := ⟨co_X6_init, xm (i := 63) (by decide +kernel) (by decide +kernel), by decide +kernel, by decide +kernel, by decide⟩
theorem im_X6_init : Cond.instanceMethod yX6_init ∈ lw_gd := xm (i := 194) (by decide +kernel) (by decide +kernel)
theorem co_X6_restart : Cond.code yX6_restart cX6_restart 1 none ∈ lw_gd := xm (i := 619) (by decide +kernel) (by decide +kernel)
theorem mi_X6_restart : xMi yX6_restart cX6_restart 1 none 0 := ⟨co_X6_restart, xm (i := 63) (by decide +kernel) (by decide +kernel), by decide +kernel, by decide +kernel, by decide⟩
theorem im_X6_restart : Cond.instanceMethod yX6_restart ∈ lw_gd := xm (i := 617) (by decide +kernel) (by decide +kernel)
theorem se_X6_restart : Cond.selects yX6_restart.cls yX6_restart yX6_restart ∈ lw_gd := xm (i := 618) (by decide +kernel) (by decide +kernel)
theorem co_X6_mirror : Cond.code yX6_mirror cX6_mirror 2 none ∈ lw_gd := xm (i := 749) (by decide +kernel) (by decide +kernel)
theorem mi_X6_mirror : xMi yX6_mirror cX6_mirror 2 none 1 := ⟨co_X6_mirror, xm (i := 63) (by decide +kernel) (by decide +kernel), by decide +kernel, by decide +kernel, by decide⟩
theorem im_X6_mirror : Cond.instanceMethod yX6_mirror ∈ lw_gd := xm (i := 747) (by decide +kernel) (by decide +kernel)
theorem se_X6_mirror : Cond.selects yX6_mirror.cls yX6_mirror yX6_mirror ∈ lw_gd := xm (i := 748) (by decide +kernel) (by decide +kernel)
theorem co_X6_loadBits : Cond.code yX6_loadBits cX6_loadBits 1 (some .int) ∈ lw_gd := xm (i := 557) (by decide +kernel) (by decide +kernel)
theorem mi_X6_loadBits : xMi yX6_loadBits cX6_loadBits 1 (some .int) 0 := ⟨co_X6_loadBits, xm (i := 63) (by decide +kernel) (by decide +kernel), by decide +kernel, by decide +kernel, by decide⟩
theorem im_X6_loadBits : Cond.instanceMethod yX6_loadBits ∈ lw_gd := xm (i := 556) (by decide +kernel) (by decide +kernel)
theorem se_X6_loadBits : Cond.selects yX6_loadBits.cls yX6_loadBits yX6_loadBits ∈ lw_gd := xm (i := 8) (by decide +kernel) (by decide +kernel)
theorem co_X6_loadTaken : Cond.code yX6_loadTaken cX6_loadTaken 1 (some .int) ∈ lw_gd := xm (i := 670) (by decide +kernel) (by decide +kernel)
theorem mi_X6_loadTaken : xMi yX6_loadTaken cX6_loadTaken 1 (some .int) 0 := ⟨co_X6_loadTaken, xm (i := 63) (by decide +kernel) (by decide +kernel), by decide +kernel, by decide +kernel, by decide⟩
theorem im_X6_loadTaken : Cond.instanceMethod yX6_loadTaken ∈ lw_gd := xm (i := 668) (by decide +kernel) (by decide +kernel)
theorem se_X6_loadTaken : Cond.selects yX6_loadTaken.cls yX6_loadTaken yX6_loadTaken ∈ lw_gd := xm (i := 669) (by decide +kernel) (by decide +kernel)
theorem co_X6_headTaken : Cond.code yX6_headTaken cX6_headTaken 1 (some .int) ∈ lw_gd := xm (i := 674) (by decide +kernel) (by decide +kernel)
theorem mi_X6_headTaken : xMi yX6_headTaken cX6_headTaken 1 (some .int) 0 := ⟨co_X6_headTaken, xm (i := 63) (by decide +kernel) (by decide +kernel), by decide +kernel, by decide +kernel, by decide⟩
theorem im_X6_headTaken : Cond.instanceMethod yX6_headTaken ∈ lw_gd := xm (i := 672) (by decide +kernel) (by decide +kernel)
theorem se_X6_headTaken : Cond.selects yX6_headTaken.cls yX6_headTaken yX6_headTaken ∈ lw_gd := xm (i := 673) (by decide +kernel) (by decide +kernel)
theorem co_X6_plainOf : Cond.code yX6_plainOf cX6_plainOf 2 (some .int) ∈ lw_gd := xm (i := 790) (by decide +kernel) (by decide +kernel)
theorem mi_X6_plainOf : xMi yX6_plainOf cX6_plainOf 2 (some .int) 1 := ⟨co_X6_plainOf, xm (i := 63) (by decide +kernel) (by decide +kernel), by decide +kernel, by decide +kernel, by decide⟩
theorem im_X6_plainOf : Cond.instanceMethod yX6_plainOf ∈ lw_gd := xm (i := 788) (by decide +kernel) (by decide +kernel)
theorem se_X6_plainOf : Cond.selects yX6_plainOf.cls yX6_plainOf yX6_plainOf ∈ lw_gd := xm (i := 789) (by decide +kernel) (by decide +kernel)
theorem co_X6_receive : Cond.code yX6_receive cX6_receive 4 none ∈ lw_gd := xm (i := 531) (by decide +kernel) (by decide +kernel)
theorem mi_X6_receive : xMi yX6_receive cX6_receive 4 none 2 := ⟨co_X6_receive, xm (i := 63) (by decide +kernel) (by decide +kernel), by decide +kernel, by decide +kernel, by decide⟩
theorem im_X6_receive : Cond.instanceMethod yX6_receive ∈ lw_gd := xm (i := 529) (by decide +kernel) (by decide +kernel)
theorem se_X6_receive : Cond.selects yX6_receive.cls yX6_receive yX6_receive ∈ lw_gd := xm (i := 530) (by decide +kernel) (by decide +kernel)
theorem co_X6_hunt : Cond.code yX6_hunt cX6_hunt 3 none ∈ lw_gd := xm (i := 541) (by decide +kernel) (by decide +kernel)
theorem mi_X6_hunt : xMi yX6_hunt cX6_hunt 3 none 1 := ⟨co_X6_hunt, xm (i := 63) (by decide +kernel) (by decide +kernel), by decide +kernel, by decide +kernel, by decide⟩
theorem im_X6_hunt : Cond.instanceMethod yX6_hunt ∈ lw_gd := xm (i := 540) (by decide +kernel) (by decide +kernel)
theorem se_X6_hunt : Cond.selects yX6_hunt.cls yX6_hunt yX6_hunt ∈ lw_gd := xm (i := 6) (by decide +kernel) (by decide +kernel)
theorem co_X6_carry : Cond.code yX6_carry cX6_carry 4 none ∈ lw_gd := xm (i := 561) (by decide +kernel) (by decide +kernel)
theorem mi_X6_carry : xMi yX6_carry cX6_carry 4 none 1 := ⟨co_X6_carry, xm (i := 63) (by decide +kernel) (by decide +kernel), by decide +kernel, by decide +kernel, by decide⟩
theorem im_X6_carry : Cond.instanceMethod yX6_carry ∈ lw_gd := xm (i := 560) (by decide +kernel) (by decide +kernel)
theorem se_X6_carry : Cond.selects yX6_carry.cls yX6_carry yX6_carry ∈ lw_gd := xm (i := 9) (by decide +kernel) (by decide +kernel)
theorem co_X6_endLoad : Cond.code yX6_endLoad cX6_endLoad 1 none ∈ lw_gd := xm (i := 567) (by decide +kernel) (by decide +kernel)
theorem mi_X6_endLoad : xMi yX6_endLoad cX6_endLoad 1 none 0 := ⟨co_X6_endLoad, xm (i := 63) (by decide +kernel) (by decide +kernel), by decide +kernel, by decide +kernel, by decide⟩
theorem im_X6_endLoad : Cond.instanceMethod yX6_endLoad ∈ lw_gd := xm (i := 566) (by decide +kernel) (by decide +kernel)
theorem se_X6_endLoad : Cond.selects yX6_endLoad.cls yX6_endLoad yX6_endLoad ∈ lw_gd := xm (i := 10) (by decide +kernel) (by decide +kernel)
theorem co_X6_judge : Cond.code yX6_judge cX6_judge 4 none ∈ lw_gd := xm (i := 585) (by decide +kernel) (by decide +kernel)
theorem mi_X6_judge : xMi yX6_judge cX6_judge 4 none 1 := ⟨co_X6_judge, xm (i := 63) (by decide +kernel) (by decide +kernel), by decide +kernel, by decide +kernel, by decide⟩
theorem im_X6_judge : Cond.instanceMethod yX6_judge ∈ lw_gd := xm (i := 584) (by decide +kernel) (by decide +kernel)
theorem se_X6_judge : Cond.selects yX6_judge.cls yX6_judge yX6_judge ∈ lw_gd := xm (i := 12) (by decide +kernel) (by decide +kernel)
theorem co_X6_acceptRight : Cond.code yX6_acceptRight cX6_acceptRight 2 (some .int) ∈ lw_gd := xm (i := 597) (by decide +kernel) (by decide +kernel)
theorem mi_X6_acceptRight : xMi yX6_acceptRight cX6_acceptRight 2 (some .int) 1 := ⟨co_X6_acceptRight, xm (i := 63) (by decide +kernel) (by decide +kernel), by decide +kernel, by decide +kernel, by decide⟩
theorem im_X6_acceptRight : Cond.instanceMethod yX6_acceptRight ∈ lw_gd := xm (i := 596) (by decide +kernel) (by decide +kernel)
theorem se_X6_acceptRight : Cond.selects yX6_acceptRight.cls yX6_acceptRight yX6_acceptRight ∈ lw_gd := xm (i := 13) (by decide +kernel) (by decide +kernel)
theorem co_X6_faceWrong : Cond.code yX6_faceWrong cX6_faceWrong 5 (some .int) ∈ lw_gd := xm (i := 601) (by decide +kernel) (by decide +kernel)
theorem mi_X6_faceWrong : xMi yX6_faceWrong cX6_faceWrong 5 (some .int) 2 := ⟨co_X6_faceWrong, xm (i := 63) (by decide +kernel) (by decide +kernel), by decide +kernel, by decide +kernel, by decide⟩
theorem im_X6_faceWrong : Cond.instanceMethod yX6_faceWrong ∈ lw_gd := xm (i := 600) (by decide +kernel) (by decide +kernel)
theorem se_X6_faceWrong : Cond.selects yX6_faceWrong.cls yX6_faceWrong yX6_faceWrong ∈ lw_gd := xm (i := 14) (by decide +kernel) (by decide +kernel)
theorem co_X6_become : Cond.code yX6_become cX6_become 3 none ∈ lw_gd := xm (i := 549) (by decide +kernel) (by decide +kernel)
theorem mi_X6_become : xMi yX6_become cX6_become 3 none 2 := ⟨co_X6_become, xm (i := 63) (by decide +kernel) (by decide +kernel), by decide +kernel, by decide +kernel, by decide⟩
theorem im_X6_become : Cond.instanceMethod yX6_become ∈ lw_gd := xm (i := 548) (by decide +kernel) (by decide +kernel)
theorem se_X6_become : Cond.selects yX6_become.cls yX6_become yX6_become ∈ lw_gd := xm (i := 7) (by decide +kernel) (by decide +kernel)
theorem co_X6_watch : Cond.code yX6_watch cX6_watch 3 none ∈ lw_gd := xm (i := 611) (by decide +kernel) (by decide +kernel)
theorem mi_X6_watch : xMi yX6_watch cX6_watch 3 none 1 := ⟨co_X6_watch, xm (i := 63) (by decide +kernel) (by decide +kernel), by decide +kernel, by decide +kernel, by decide⟩
theorem im_X6_watch : Cond.instanceMethod yX6_watch ∈ lw_gd := xm (i := 610) (by decide +kernel) (by decide +kernel)
theorem se_X6_watch : Cond.selects yX6_watch.cls yX6_watch yX6_watch ∈ lw_gd := xm (i := 15) (by decide +kernel) (by decide +kernel)
theorem co_X7_init : Cond.code yX7_init cX7_init 2 none ∈ lw_gd := xm (i := 152) (by decide +kernel) (by decide +kernel)
theorem mi_X7_init : xMi yX7_init cX7_init 2 none 1 := ⟨co_X7_init, xm (i := 61) (by decide +kernel) (by decide +kernel), by decide +kernel, by decide +kernel, by decide⟩
theorem im_X7_init : Cond.instanceMethod yX7_init ∈ lw_gd := xm (i := 151) (by decide +kernel) (by decide +kernel)
theorem co_X7_clear : Cond.code yX7_clear cX7_clear 1 none ∈ lw_gd := xm (i := 635) (by decide +kernel) (by decide +kernel)
theorem mi_X7_clear : xMi yX7_clear cX7_clear 1 none 0 := ⟨co_X7_clear, xm (i := 61) (by decide +kernel) (by decide +kernel), by decide +kernel, by decide +kernel, by decide⟩
theorem im_X7_clear : Cond.instanceMethod yX7_clear ∈ lw_gd := xm (i := 633) (by decide +kernel) (by decide +kernel)
theorem se_X7_clear : Cond.selects yX7_clear.cls yX7_clear yX7_clear ∈ lw_gd := xm (i := 634) (by decide +kernel) (by decide +kernel)
theorem co_X7_firstKept : Cond.code yX7_firstKept cX7_firstKept 1 (some .int) ∈ lw_gd := xm (i := 695) (by decide +kernel) (by decide +kernel)
theorem mi_X7_firstKept : xMi yX7_firstKept cX7_firstKept 1 (some .int) 0 := ⟨co_X7_firstKept, xm (i := 61) (by decide +kernel) (by decide +kernel), by decide +kernel, by decide +kernel, by decide⟩
theorem im_X7_firstKept : Cond.instanceMethod yX7_firstKept ∈ lw_gd := xm (i := 693) (by decide +kernel) (by decide +kernel)
theorem se_X7_firstKept : Cond.selects yX7_firstKept.cls yX7_firstKept yX7_firstKept ∈ lw_gd := xm (i := 694) (by decide +kernel) (by decide +kernel)
theorem co_X7_keeps : Cond.code yX7_keeps cX7_keeps 2 (some .boolean) ∈ lw_gd := xm (i := 691) (by decide +kernel) (by decide +kernel)
theorem mi_X7_keeps : xMi yX7_keeps cX7_keeps 2 (some .boolean) 1 := ⟨co_X7_keeps, xm (i := 61) (by decide +kernel) (by decide +kernel), by decide +kernel, by decide +kernel, by decide⟩
theorem im_X7_keeps : Cond.instanceMethod yX7_keeps ∈ lw_gd := xm (i := 689) (by decide +kernel) (by decide +kernel)
theorem se_X7_keeps : Cond.selects yX7_keeps.cls yX7_keeps yX7_keeps ∈ lw_gd := xm (i := 690) (by decide +kernel) (by decide +kernel)
theorem co_X7_slotOf : Cond.code yX7_slotOf cX7_slotOf 2 (some .int) ∈ lw_gd := xm (i := 707) (by decide +kernel) (by decide +kernel)
theorem mi_X7_slotOf : xMi yX7_slotOf cX7_slotOf 2 (some .int) 1 := ⟨co_X7_slotOf, xm (i := 61) (by decide +kernel) (by decide +kernel), by decide +kernel, by decide +kernel, by decide⟩
theorem im_X7_slotOf : Cond.instanceMethod yX7_slotOf ∈ lw_gd := xm (i := 705) (by decide +kernel) (by decide +kernel)
theorem se_X7_slotOf : Cond.selects yX7_slotOf.cls yX7_slotOf yX7_slotOf ∈ lw_gd := xm (i := 706) (by decide +kernel) (by decide +kernel)
theorem co_X7_entry : Cond.code yX7_entry cX7_entry 4 (some .int) ∈ lw_gd := xm (i := 703) (by decide +kernel) (by decide +kernel)
theorem mi_X7_entry : xMi yX7_entry cX7_entry 4 (some .int) 2 := ⟨co_X7_entry, xm (i := 61) (by decide +kernel) (by decide +kernel), by decide +kernel, by decide +kernel, by decide⟩
theorem im_X7_entry : Cond.instanceMethod yX7_entry ∈ lw_gd := xm (i := 701) (by decide +kernel) (by decide +kernel)
theorem se_X7_entry : Cond.selects yX7_entry.cls yX7_entry yX7_entry ∈ lw_gd := xm (i := 702) (by decide +kernel) (by decide +kernel)
theorem co_X7_add : Cond.code yX7_add cX7_add 5 none ∈ lw_gd := xm (i := 553) (by decide +kernel) (by decide +kernel)
theorem mi_X7_add : xMi yX7_add cX7_add 5 none 3 := ⟨co_X7_add, xm (i := 61) (by decide +kernel) (by decide +kernel), by decide +kernel, by decide +kernel, by decide⟩
theorem im_X7_add : Cond.instanceMethod yX7_add ∈ lw_gd := xm (i := 551) (by decide +kernel) (by decide +kernel)
theorem se_X7_add : Cond.selects yX7_add.cls yX7_add yX7_add ∈ lw_gd := xm (i := 552) (by decide +kernel) (by decide +kernel)
theorem co_X8_init : Cond.code yX8_init cX8_init 1 none ∈ lw_gd := xm (i := 115) (by decide +kernel) (by decide +kernel)
theorem mi_X8_init : xMi yX8_init cX8_init 1 none 0 := ⟨co_X8_init, xm (i := 58) (by decide +kernel) (by decide +kernel), by decide +kernel, by decide +kernel, by decide⟩
theorem im_X8_init : Cond.instanceMethod yX8_init ∈ lw_gd := xm (i := 114) (by decide +kernel) (by decide +kernel)
theorem co_X8_restart : Cond.code yX8_restart cX8_restart 1 none ∈ lw_gd := xm (i := 496) (by decide +kernel) (by decide +kernel)
theorem mi_X8_restart : xMi yX8_restart cX8_restart 1 none 0 := ⟨co_X8_restart, xm (i := 58) (by decide +kernel) (by decide +kernel), by decide +kernel, by decide +kernel, by decide⟩
theorem im_X8_restart : Cond.instanceMethod yX8_restart ∈ lw_gd := xm (i := 494) (by decide +kernel) (by decide +kernel)
theorem se_X8_restart : Cond.selects yX8_restart.cls yX8_restart yX8_restart ∈ lw_gd := xm (i := 495) (by decide +kernel) (by decide +kernel)
theorem co_X8_following : Cond.code yX8_following cX8_following 1 (some .int) ∈ lw_gd := xm (i := 409) (by decide +kernel) (by decide +kernel)
theorem mi_X8_following : xMi yX8_following cX8_following 1 (some .int) 1 := ⟨co_X8_following, xm (i := 58) (by decide +kernel) (by decide +kernel), by decide +kernel, by decide +kernel, by decide⟩
theorem st_X8_following : Cond.static yX8_following ∈ lw_gd := xm (i := 408) (by decide +kernel) (by decide +kernel)
theorem co_X8_fillBySeed : Cond.code yX8_fillBySeed cX8_fillBySeed 6 none ∈ lw_gd := xm (i := 406) (by decide +kernel) (by decide +kernel)
theorem mi_X8_fillBySeed : xMi yX8_fillBySeed cX8_fillBySeed 6 none 2 := ⟨co_X8_fillBySeed, xm (i := 58) (by decide +kernel) (by decide +kernel), by decide +kernel, by decide +kernel, by decide⟩
theorem im_X8_fillBySeed : Cond.instanceMethod yX8_fillBySeed ∈ lw_gd := xm (i := 404) (by decide +kernel) (by decide +kernel)
theorem se_X8_fillBySeed : Cond.selects yX8_fillBySeed.cls yX8_fillBySeed yX8_fillBySeed ∈ lw_gd := xm (i := 405) (by decide +kernel) (by decide +kernel)
theorem co_X8_fillIdle : Cond.code yX8_fillIdle cX8_fillIdle 4 none ∈ lw_gd := xm (i := 439) (by decide +kernel) (by decide +kernel)
theorem mi_X8_fillIdle : xMi yX8_fillIdle cX8_fillIdle 4 none 1 := ⟨co_X8_fillIdle, xm (i := 58) (by decide +kernel) (by decide +kernel), by decide +kernel, by decide +kernel, by decide⟩
theorem im_X8_fillIdle : Cond.instanceMethod yX8_fillIdle ∈ lw_gd := xm (i := 437) (by decide +kernel) (by decide +kernel)
theorem se_X8_fillIdle : Cond.selects yX8_fillIdle.cls yX8_fillIdle yX8_fillIdle ∈ lw_gd := xm (i := 438) (by decide +kernel) (by decide +kernel)
theorem co_X8_putCell : Cond.code yX8_putCell cX8_putCell 6 none ∈ lw_gd := xm (i := 414) (by decide +kernel) (by decide +kernel)
theorem mi_X8_putCell : xMi yX8_putCell cX8_putCell 6 none 3 := ⟨co_X8_putCell, xm (i := 58) (by decide +kernel) (by decide +kernel), by decide +kernel, by decide +kernel, by decide⟩
theorem im_X8_putCell : Cond.instanceMethod yX8_putCell ∈ lw_gd := xm (i := 412) (by decide +kernel) (by decide +kernel)
theorem se_X8_putCell : Cond.selects yX8_putCell.cls yX8_putCell yX8_putCell ∈ lw_gd := xm (i := 413) (by decide +kernel) (by decide +kernel)
theorem co_X8_scrambled : Cond.code yX8_scrambled cX8_scrambled 5 (some .int) ∈ lw_gd := xm (i := 422) (by decide +kernel) (by decide +kernel)
theorem mi_X8_scrambled : xMi yX8_scrambled cX8_scrambled 5 (some .int) 1 := ⟨co_X8_scrambled, xm (i := 58) (by decide +kernel) (by decide +kernel), by decide +kernel, by decide +kernel, by decide⟩
theorem im_X8_scrambled : Cond.instanceMethod yX8_scrambled ∈ lw_gd := xm (i := 421) (by decide +kernel) (by decide +kernel)
theorem se_X8_scrambled : Cond.selects yX8_scrambled.cls yX8_scrambled yX8_scrambled ∈ lw_gd := xm (i := 2) (by decide +kernel) (by decide +kernel)
theorem co_X8_firstLike : Cond.code yX8_firstLike cX8_firstLike 6 (some .int) ∈ lw_gd := xm (i := 571) (by decide +kernel) (by decide +kernel)
theorem mi_X8_firstLike : xMi yX8_firstLike cX8_firstLike 6 (some .int) 4 := ⟨co_X8_firstLike, xm (i := 58) (by decide +kernel) (by decide +kernel), by decide +kernel, by decide +kernel, by decide⟩
theorem im_X8_firstLike : Cond.instanceMethod yX8_firstLike ∈ lw_gd := xm (i := 569) (by decide +kernel) (by decide +kernel)
theorem se_X8_firstLike : Cond.selects yX8_firstLike.cls yX8_firstLike yX8_firstLike ∈ lw_gd := xm (i := 570) (by decide +kernel) (by decide +kernel)
theorem co_X8_isLoadLike : Cond.code yX8_isLoadLike cX8_isLoadLike 7 (some .boolean) ∈ lw_gd := xm (i := 575) (by decide +kernel) (by decide +kernel)
theorem mi_X8_isLoadLike : xMi yX8_isLoadLike cX8_isLoadLike 7 (some .boolean) 4 := ⟨co_X8_isLoadLike, xm (i := 58) (by decide +kernel) (by decide +kernel), by decide +kernel, by decide +kernel, by decide⟩
theorem im_X8_isLoadLike : Cond.instanceMethod yX8_isLoadLike ∈ lw_gd := xm (i := 574) (by decide +kernel) (by decide +kernel)
theorem se_X8_isLoadLike : Cond.selects yX8_isLoadLike.cls yX8_isLoadLike yX8_isLoadLike ∈ lw_gd := xm (i := 11) (by decide +kernel) (by decide +kernel)
theorem co_X9_init : Cond.code yX9_init cX9_init 1 none ∈ lw_gd := xm (i := 307) (by decide +kernel) (by decide +kernel)
theorem mi_X9_init : xMi yX9_init cX9_init 1 none 0 := ⟨co_X9_init, xm (i := 66) (by decide +kernel) (by decide +kernel), by decide +kernel, by decide +kernel, by decide⟩
theorem im_X9_init : Cond.instanceMethod yX9_init ∈ lw_gd := xm (i := 306) (by decide +kernel) (by decide +kernel)
theorem co_X9_rowsOf : Cond.code yX9_rowsOf cX9_rowsOf 4 (some .long) ∈ lw_gd := xm (i := 917) (by decide +kernel) (by decide +kernel)
theorem mi_X9_rowsOf : xMi yX9_rowsOf cX9_rowsOf 4 (some .long) 1 := ⟨co_X9_rowsOf, xm (i := 66) (by decide +kernel) (by decide +kernel), by decide +kernel, by decide +kernel, by decide⟩
theorem st_X9_rowsOf : Cond.static yX9_rowsOf ∈ lw_gd := xm (i := 916) (by decide +kernel) (by decide +kernel)
theorem co_X9_wordsOf : Cond.code yX9_wordsOf cX9_wordsOf 2 (some .long) ∈ lw_gd := xm (i := 880) (by decide +kernel) (by decide +kernel)
theorem mi_X9_wordsOf : xMi yX9_wordsOf cX9_wordsOf 2 (some .long) 1 := ⟨co_X9_wordsOf, xm (i := 66) (by decide +kernel) (by decide +kernel), by decide +kernel, by decide +kernel, by decide⟩
theorem im_X9_wordsOf : Cond.instanceMethod yX9_wordsOf ∈ lw_gd := xm (i := 878) (by decide +kernel) (by decide +kernel)
theorem se_X9_wordsOf : Cond.selects yX9_wordsOf.cls yX9_wordsOf yX9_wordsOf ∈ lw_gd := xm (i := 879) (by decide +kernel) (by decide +kernel)
theorem co_X9_oneBitOff : Cond.code yX9_oneBitOff cX9_oneBitOff 2 (some .long) ∈ lw_gd := xm (i := 913) (by decide +kernel) (by decide +kernel)
theorem mi_X9_oneBitOff : xMi yX9_oneBitOff cX9_oneBitOff 2 (some .long) 1 := ⟨co_X9_oneBitOff, xm (i := 66) (by decide +kernel) (by decide +kernel), by decide +kernel, by decide +kernel, by decide⟩
theorem im_X9_oneBitOff : Cond.instanceMethod yX9_oneBitOff ∈ lw_gd := xm (i := 911) (by decide +kernel) (by decide +kernel)
theorem se_X9_oneBitOff : Cond.selects yX9_oneBitOff.cls yX9_oneBitOff yX9_oneBitOff ∈ lw_gd := xm (i := 912) (by decide +kernel) (by decide +kernel)
theorem co_X9_countWords : Cond.code yX9_countWords cX9_countWords 3 none ∈ lw_gd := xm (i := 884) (by decide +kernel) (by decide +kernel)
theorem mi_X9_countWords : xMi yX9_countWords cX9_countWords 3 none 0 := ⟨co_X9_countWords, xm (i := 66) (by decide +kernel) (by decide +kernel), by decide +kernel, by decide +kernel, by decide⟩
theorem im_X9_countWords : Cond.instanceMethod yX9_countWords ∈ lw_gd := xm (i := 883) (by decide +kernel) (by decide +kernel)
theorem se_X9_countWords : Cond.selects yX9_countWords.cls yX9_countWords yX9_countWords ∈ lw_gd := xm (i := 19) (by decide +kernel) (by decide +kernel)
theorem co_X9_countMasks : Cond.code yX9_countMasks cX9_countMasks 5 none ∈ lw_gd := xm (i := 888) (by decide +kernel) (by decide +kernel)
theorem mi_X9_countMasks : xMi yX9_countMasks cX9_countMasks 5 none 0 := ⟨co_X9_countMasks, xm (i := 66) (by decide +kernel) (by decide +kernel), by decide +kernel, by decide +kernel, by decide⟩
theorem im_X9_countMasks : Cond.instanceMethod yX9_countMasks ∈ lw_gd := xm (i := 887) (by decide +kernel) (by decide +kernel)
theorem se_X9_countMasks : Cond.selects yX9_countMasks.cls yX9_countMasks yX9_countMasks ∈ lw_gd := xm (i := 20) (by decide +kernel) (by decide +kernel)
theorem co_X9_addUpSigns : Cond.code yX9_addUpSigns cX9_addUpSigns 4 none ∈ lw_gd := xm (i := 899) (by decide +kernel) (by decide +kernel)
theorem mi_X9_addUpSigns : xMi yX9_addUpSigns cX9_addUpSigns 4 none 1 := ⟨co_X9_addUpSigns, xm (i := 66) (by decide +kernel) (by decide +kernel), by decide +kernel, by decide +kernel, by decide⟩
theorem im_X9_addUpSigns : Cond.instanceMethod yX9_addUpSigns ∈ lw_gd := xm (i := 898) (by decide +kernel) (by decide +kernel)
theorem se_X9_addUpSigns : Cond.selects yX9_addUpSigns.cls yX9_addUpSigns yX9_addUpSigns ∈ lw_gd := xm (i := 21) (by decide +kernel) (by decide +kernel)
theorem co_X10_init : Cond.code yX10_init cX10_init 1 none ∈ lw_gd := xm (i := 201) (by decide +kernel) (by decide +kernel)
theorem mi_X10_init : xMi yX10_init cX10_init 1 none 0 := ⟨co_X10_init, xm (i := 64) (by decide +kernel) (by decide +kernel), by decide +kernel, by decide +kernel, by decide⟩
theorem im_X10_init : Cond.instanceMethod yX10_init ∈ lw_gd := xm (i := 200) (by decide +kernel) (by decide +kernel)
theorem co_X10_clear : Cond.code yX10_clear cX10_clear 1 none ∈ lw_gd := xm (i := 626) (by decide +kernel) (by decide +kernel)
theorem mi_X10_clear : xMi yX10_clear cX10_clear 1 none 0 := ⟨co_X10_clear, xm (i := 64) (by decide +kernel) (by decide +kernel), by decide +kernel, by decide +kernel, by decide⟩
theorem im_X10_clear : Cond.instanceMethod yX10_clear ∈ lw_gd := xm (i := 624) (by decide +kernel) (by decide +kernel)
theorem se_X10_clear : Cond.selects yX10_clear.cls yX10_clear yX10_clear ∈ lw_gd := xm (i := 625) (by decide +kernel) (by decide +kernel)
theorem co_X10_mirror : Cond.code yX10_mirror cX10_mirror 2 none ∈ lw_gd := xm (i := 754) (by decide +kernel) (by decide +kernel)
theorem mi_X10_mirror : xMi yX10_mirror cX10_mirror 2 none 1 := ⟨co_X10_mirror, xm (i := 64) (by decide +kernel) (by decide +kernel), by decide +kernel, by decide +kernel, by decide⟩
theorem im_X10_mirror : Cond.instanceMethod yX10_mirror ∈ lw_gd := xm (i := 752) (by decide +kernel) (by decide +kernel)
theorem se_X10_mirror : Cond.selects yX10_mirror.cls yX10_mirror yX10_mirror ∈ lw_gd := xm (i := 753) (by decide +kernel) (by decide +kernel)
theorem co_X10_push : Cond.code yX10_push cX10_push 3 none ∈ lw_gd := xm (i := 535) (by decide +kernel) (by decide +kernel)
theorem mi_X10_push : xMi yX10_push cX10_push 3 none 1 := ⟨co_X10_push, xm (i := 64) (by decide +kernel) (by decide +kernel), by decide +kernel, by decide +kernel, by decide⟩
theorem im_X10_push : Cond.instanceMethod yX10_push ∈ lw_gd := xm (i := 533) (by decide +kernel) (by decide +kernel)
theorem se_X10_push : Cond.selects yX10_push.cls yX10_push yX10_push ∈ lw_gd := xm (i := 534) (by decide +kernel) (by decide +kernel)
theorem co_X10_isFull : Cond.code yX10_isFull cX10_isFull 1 (some .boolean) ∈ lw_gd := xm (i := 678) (by decide +kernel) (by decide +kernel)
theorem mi_X10_isFull : xMi yX10_isFull cX10_isFull 1 (some .boolean) 0 := ⟨co_X10_isFull, xm (i := 64) (by decide +kernel) (by decide +kernel), by decide +kernel, by decide +kernel, by decide⟩
theorem im_X10_isFull : Cond.instanceMethod yX10_isFull ∈ lw_gd := xm (i := 676) (by decide +kernel) (by decide +kernel)
theorem se_X10_isFull : Cond.selects yX10_isFull.cls yX10_isFull yX10_isFull ∈ lw_gd := xm (i := 677) (by decide +kernel) (by decide +kernel)
theorem co_X10_looksRight : Cond.code yX10_looksRight cX10_looksRight 1 (some .boolean) ∈ lw_gd := xm (i := 545) (by decide +kernel) (by decide +kernel)
theorem mi_X10_looksRight : xMi yX10_looksRight cX10_looksRight 1 (some .boolean) 0 := ⟨co_X10_looksRight, xm (i := 64) (by decide +kernel) (by decide +kernel), by decide +kernel, by decide +kernel, by decide⟩
theorem im_X10_looksRight : Cond.instanceMethod yX10_looksRight ∈ lw_gd := xm (i := 543) (by decide +kernel) (by decide +kernel)
theorem se_X10_looksRight : Cond.selects yX10_looksRight.cls yX10_looksRight yX10_looksRight ∈ lw_gd := xm (i := 544) (by decide +kernel) (by decide +kernel)
theorem co_X10_syndromeNow : Cond.code yX10_syndromeNow cX10_syndromeNow 1 (some .int) ∈ lw_gd := xm (i := 589) (by decide +kernel) (by decide +kernel)
theorem mi_X10_syndromeNow : xMi yX10_syndromeNow cX10_syndromeNow 1 (some .int) 0 := ⟨co_X10_syndromeNow, xm (i := 64) (by decide +kernel) (by decide +kernel), by decide +kernel, by decide +kernel, by decide⟩
theorem im_X10_syndromeNow : Cond.instanceMethod yX10_syndromeNow ∈ lw_gd := xm (i := 587) (by decide +kernel) (by decide +kernel)
theorem se_X10_syndromeNow : Cond.selects yX10_syndromeNow.cls yX10_syndromeNow yX10_syndromeNow ∈ lw_gd := xm (i := 588) (by decide +kernel) (by decide +kernel)
theorem co_X10_headerNow : Cond.code yX10_headerNow cX10_headerNow 1 (some .int) ∈ lw_gd := xm (i := 593) (by decide +kernel) (by decide +kernel)
theorem mi_X10_headerNow : xMi yX10_headerNow cX10_headerNow 1 (some .int) 0 := ⟨co_X10_headerNow, xm (i := 64) (by decide +kernel) (by decide +kernel), by decide +kernel, by decide +kernel, by decide⟩
theorem im_X10_headerNow : Cond.instanceMethod yX10_headerNow ∈ lw_gd := xm (i := 591) (by decide +kernel) (by decide +kernel)
theorem se_X10_headerNow : Cond.selects yX10_headerNow.cls yX10_headerNow yX10_headerNow ∈ lw_gd := xm (i := 592) (by decide +kernel) (by decide +kernel)
theorem co_X11_init : Cond.code yX11_init cX11_init 1 none ∈ lw_gd := xm (i := 78) (by decide +kernel) (by decide +kernel)
theorem mi_X11_init : xMi yX11_init cX11_init 1 none 0 := ⟨co_X11_init, xm (i := 56) (by decide +kernel) (by decide +kernel), by decide +kernel, by decide +kernel, by decide⟩
theorem im_X11_init : Cond.instanceMethod yX11_init ∈ lw_gd := xm (i := 77) (by decide +kernel) (by decide +kernel)
theorem co_X11_feed : Cond.code yX11_feed cX11_feed 6 (some .int) ∈ lw_gd := xm (i := 373) (by decide +kernel) (by decide +kernel)
theorem mi_X11_feed : xMi yX11_feed cX11_feed 6 (some .int) 5 := ⟨co_X11_feed, xm (i := 56) (by decide +kernel) (by decide +kernel), by decide +kernel, by decide +kernel, by decide⟩
theorem im_X11_feed : Cond.instanceMethod yX11_feed ∈ lw_gd := xm (i := 371) (by decide +kernel) (by decide +kernel)
theorem se_X11_feed : Cond.selects yX11_feed.cls yX11_feed yX11_feed ∈ lw_gd := xm (i := 372) (by decide +kernel) (by decide +kernel)
theorem co_X11_bits : Cond.code yX11_bits cX11_bits 3 (some .int) ∈ lw_gd := xm (i := 390) (by decide +kernel) (by decide +kernel)
theorem mi_X11_bits : xMi yX11_bits cX11_bits 3 (some .int) 2 := ⟨co_X11_bits, xm (i := 56) (by decide +kernel) (by decide +kernel), by decide +kernel, by decide +kernel, by decide⟩
theorem im_X11_bits : Cond.instanceMethod yX11_bits ∈ lw_gd := xm (i := 388) (by decide +kernel) (by decide +kernel)
theorem se_X11_bits : Cond.selects yX11_bits.cls yX11_bits yX11_bits ∈ lw_gd := xm (i := 389) (by decide +kernel) (by decide +kernel)
theorem co_X11_send : Cond.code yX11_send cX11_send 3 (some .int) ∈ lw_gd := xm (i := 397) (by decide +kernel) (by decide +kernel)
theorem mi_X11_send : xMi yX11_send cX11_send 3 (some .int) 2 := ⟨co_X11_send, xm (i := 56) (by decide +kernel) (by decide +kernel), by decide +kernel, by decide +kernel, by decide⟩
theorem im_X11_send : Cond.instanceMethod yX11_send ∈ lw_gd := xm (i := 395) (by decide +kernel) (by decide +kernel)
theorem se_X11_send : Cond.selects yX11_send.cls yX11_send yX11_send ∈ lw_gd := xm (i := 396) (by decide +kernel) (by decide +kernel)
theorem co_X11_rest : Cond.code yX11_rest cX11_rest 3 (some .int) ∈ lw_gd := xm (i := 435) (by decide +kernel) (by decide +kernel)
theorem mi_X11_rest : xMi yX11_rest cX11_rest 3 (some .int) 1 := ⟨co_X11_rest, xm (i := 56) (by decide +kernel) (by decide +kernel), by decide +kernel, by decide +kernel, by decide⟩
theorem im_X11_rest : Cond.instanceMethod yX11_rest ∈ lw_gd := xm (i := 433) (by decide +kernel) (by decide +kernel)
theorem se_X11_rest : Cond.selects yX11_rest.cls yX11_rest yX11_rest ∈ lw_gd := xm (i := 434) (by decide +kernel) (by decide +kernel)
theorem co_X11_flip : Cond.code yX11_flip cX11_flip 2 (some .int) ∈ lw_gd := xm (i := 443) (by decide +kernel) (by decide +kernel)
theorem mi_X11_flip : xMi yX11_flip cX11_flip 2 (some .int) 1 := ⟨co_X11_flip, xm (i := 56) (by decide +kernel) (by decide +kernel), by decide +kernel, by decide +kernel, by decide⟩
theorem im_X11_flip : Cond.instanceMethod yX11_flip ∈ lw_gd := xm (i := 441) (by decide +kernel) (by decide +kernel)
theorem se_X11_flip : Cond.selects yX11_flip.cls yX11_flip yX11_flip ∈ lw_gd := xm (i := 442) (by decide +kernel) (by decide +kernel)
theorem co_X11_drop : Cond.code yX11_drop cX11_drop 3 (some .int) ∈ lw_gd := xm (i := 460) (by decide +kernel) (by decide +kernel)
theorem mi_X11_drop : xMi yX11_drop cX11_drop 3 (some .int) 2 := ⟨co_X11_drop, xm (i := 56) (by decide +kernel) (by decide +kernel), by decide +kernel, by decide +kernel, by decide⟩
theorem im_X11_drop : Cond.instanceMethod yX11_drop ∈ lw_gd := xm (i := 458) (by decide +kernel) (by decide +kernel)
theorem se_X11_drop : Cond.selects yX11_drop.cls yX11_drop yX11_drop ∈ lw_gd := xm (i := 459) (by decide +kernel) (by decide +kernel)
theorem co_X11_slip : Cond.code yX11_slip cX11_slip 4 (some .int) ∈ lw_gd := xm (i := 471) (by decide +kernel) (by decide +kernel)
theorem mi_X11_slip : xMi yX11_slip cX11_slip 4 (some .int) 3 := ⟨co_X11_slip, xm (i := 56) (by decide +kernel) (by decide +kernel), by decide +kernel, by decide +kernel, by decide⟩
theorem im_X11_slip : Cond.instanceMethod yX11_slip ∈ lw_gd := xm (i := 469) (by decide +kernel) (by decide +kernel)
theorem se_X11_slip : Cond.selects yX11_slip.cls yX11_slip yX11_slip ∈ lw_gd := xm (i := 470) (by decide +kernel) (by decide +kernel)
theorem co_X11_disturb : Cond.code yX11_disturb cX11_disturb 8 (some .int) ∈ lw_gd := xm (i := 479) (by decide +kernel) (by decide +kernel)
theorem mi_X11_disturb : xMi yX11_disturb cX11_disturb 8 (some .int) 4 := ⟨co_X11_disturb, xm (i := 56) (by decide +kernel) (by decide +kernel), by decide +kernel, by decide +kernel, by decide⟩
theorem im_X11_disturb : Cond.instanceMethod yX11_disturb ∈ lw_gd := xm (i := 477) (by decide +kernel) (by decide +kernel)
theorem se_X11_disturb : Cond.selects yX11_disturb.cls yX11_disturb yX11_disturb ∈ lw_gd := xm (i := 478) (by decide +kernel) (by decide +kernel)
theorem co_X11_bit : Cond.code yX11_bit cX11_bit 2 (some .int) ∈ lw_gd := xm (i := 484) (by decide +kernel) (by decide +kernel)
theorem mi_X11_bit : xMi yX11_bit cX11_bit 2 (some .int) 1 := ⟨co_X11_bit, xm (i := 56) (by decide +kernel) (by decide +kernel), by decide +kernel, by decide +kernel, by decide⟩
theorem im_X11_bit : Cond.instanceMethod yX11_bit ∈ lw_gd := xm (i := 482) (by decide +kernel) (by decide +kernel)
theorem se_X11_bit : Cond.selects yX11_bit.cls yX11_bit yX11_bit ∈ lw_gd := xm (i := 483) (by decide +kernel) (by decide +kernel)
theorem co_X11_empty : Cond.code yX11_empty cX11_empty 2 (some .int) ∈ lw_gd := xm (i := 488) (by decide +kernel) (by decide +kernel)
theorem mi_X11_empty : xMi yX11_empty cX11_empty 2 (some .int) 0 := ⟨co_X11_empty, xm (i := 56) (by decide +kernel) (by decide +kernel), by decide +kernel, by decide +kernel, by decide⟩
theorem im_X11_empty : Cond.instanceMethod yX11_empty ∈ lw_gd := xm (i := 486) (by decide +kernel) (by decide +kernel)
theorem se_X11_empty : Cond.selects yX11_empty.cls yX11_empty yX11_empty ∈ lw_gd := xm (i := 487) (by decide +kernel) (by decide +kernel)
theorem co_X11_terms : Cond.code yX11_terms cX11_terms 4 (some .int) ∈ lw_gd := xm (i := 504) (by decide +kernel) (by decide +kernel)
theorem mi_X11_terms : xMi yX11_terms cX11_terms 4 (some .int) 2 := ⟨co_X11_terms, xm (i := 56) (by decide +kernel) (by decide +kernel), by decide +kernel, by decide +kernel, by decide⟩
theorem im_X11_terms : Cond.instanceMethod yX11_terms ∈ lw_gd := xm (i := 502) (by decide +kernel) (by decide +kernel)
theorem se_X11_terms : Cond.selects yX11_terms.cls yX11_terms yX11_terms ∈ lw_gd := xm (i := 503) (by decide +kernel) (by decide +kernel)
theorem co_X11_take : Cond.code yX11_take cX11_take 3 (some .int) ∈ lw_gd := xm (i := 516) (by decide +kernel) (by decide +kernel)
theorem mi_X11_take : xMi yX11_take cX11_take 3 (some .int) 1 := ⟨co_X11_take, xm (i := 56) (by decide +kernel) (by decide +kernel), by decide +kernel, by decide +kernel, by decide⟩
theorem im_X11_take : Cond.instanceMethod yX11_take ∈ lw_gd := xm (i := 514) (by decide +kernel) (by decide +kernel)
theorem se_X11_take : Cond.selects yX11_take.cls yX11_take yX11_take ∈ lw_gd := xm (i := 515) (by decide +kernel) (by decide +kernel)
theorem co_X11_fresh : Cond.code yX11_fresh cX11_fresh 2 (some .int) ∈ lw_gd := xm (i := 615) (by decide +kernel) (by decide +kernel)
theorem mi_X11_fresh : xMi yX11_fresh cX11_fresh 2 (some .int) 0 := ⟨co_X11_fresh, xm (i := 56) (by decide +kernel) (by decide +kernel), by decide +kernel, by decide +kernel, by decide⟩
theorem im_X11_fresh : Cond.instanceMethod yX11_fresh ∈ lw_gd := xm (i := 613) (by decide +kernel) (by decide +kernel)
theorem se_X11_fresh : Cond.selects yX11_fresh.cls yX11_fresh yX11_fresh ∈ lw_gd := xm (i := 614) (by decide +kernel) (by decide +kernel)
theorem co_X11_stage : Cond.code yX11_stage cX11_stage 3 (some .int) ∈ lw_gd := xm (i := 639) (by decide +kernel) (by decide +kernel)
theorem mi_X11_stage : xMi yX11_stage cX11_stage 3 (some .int) 2 := ⟨co_X11_stage, xm (i := 56) (by decide +kernel) (by decide +kernel), by decide +kernel, by decide +kernel, by decide⟩
theorem im_X11_stage : Cond.instanceMethod yX11_stage ∈ lw_gd := xm (i := 637) (by decide +kernel) (by decide +kernel)
theorem se_X11_stage : Cond.selects yX11_stage.cls yX11_stage yX11_stage ∈ lw_gd := xm (i := 638) (by decide +kernel) (by decide +kernel)
theorem co_X11_stages : Cond.code yX11_stages cX11_stages 3 (some .int) ∈ lw_gd := xm (i := 647) (by decide +kernel) (by decide +kernel)
theorem mi_X11_stages : xMi yX11_stages cX11_stages 3 (some .int) 2 := ⟨co_X11_stages, xm (i := 56) (by decide +kernel) (by decide +kernel), by decide +kernel, by decide +kernel, by decide⟩
theorem im_X11_stages : Cond.instanceMethod yX11_stages ∈ lw_gd := xm (i := 645) (by decide +kernel) (by decide +kernel)
theorem se_X11_stages : Cond.selects yX11_stages.cls yX11_stages yX11_stages ∈ lw_gd := xm (i := 646) (by decide +kernel) (by decide +kernel)
theorem co_X11_state : Cond.code yX11_state cX11_state 2 (some .int) ∈ lw_gd := xm (i := 666) (by decide +kernel) (by decide +kernel)
theorem mi_X11_state : xMi yX11_state cX11_state 2 (some .int) 1 := ⟨co_X11_state, xm (i := 56) (by decide +kernel) (by decide +kernel), by decide +kernel, by decide +kernel, by decide⟩
theorem im_X11_state : Cond.instanceMethod yX11_state ∈ lw_gd := xm (i := 664) (by decide +kernel) (by decide +kernel)
theorem se_X11_state : Cond.selects yX11_state.cls yX11_state yX11_state ∈ lw_gd := xm (i := 665) (by decide +kernel) (by decide +kernel)
theorem co_X11_count : Cond.code yX11_count cX11_count 2 (some .int) ∈ lw_gd := xm (i := 683) (by decide +kernel) (by decide +kernel)
theorem mi_X11_count : xMi yX11_count cX11_count 2 (some .int) 1 := ⟨co_X11_count, xm (i := 56) (by decide +kernel) (by decide +kernel), by decide +kernel, by decide +kernel, by decide⟩
theorem im_X11_count : Cond.instanceMethod yX11_count ∈ lw_gd := xm (i := 681) (by decide +kernel) (by decide +kernel)
theorem se_X11_count : Cond.selects yX11_count.cls yX11_count yX11_count ∈ lw_gd := xm (i := 682) (by decide +kernel) (by decide +kernel)
theorem co_X11_delivered : Cond.code yX11_delivered cX11_delivered 3 (some .int) ∈ lw_gd := xm (i := 687) (by decide +kernel) (by decide +kernel)
theorem mi_X11_delivered : xMi yX11_delivered cX11_delivered 3 (some .int) 2 := ⟨co_X11_delivered, xm (i := 56) (by decide +kernel) (by decide +kernel), by decide +kernel, by decide +kernel, by decide⟩
theorem im_X11_delivered : Cond.instanceMethod yX11_delivered ∈ lw_gd := xm (i := 685) (by decide +kernel) (by decide +kernel)
theorem se_X11_delivered : Cond.selects yX11_delivered.cls yX11_delivered yX11_delivered ∈ lw_gd := xm (i := 686) (by decide +kernel) (by decide +kernel)
theorem co_X11_load : Cond.code yX11_load cX11_load 3 (some .int) ∈ lw_gd := xm (i := 717) (by decide +kernel) (by decide +kernel)
theorem mi_X11_load : xMi yX11_load cX11_load 3 (some .int) 2 := ⟨co_X11_load, xm (i := 56) (by decide +kernel) (by decide +kernel), by decide +kernel, by decide +kernel, by decide⟩
theorem im_X11_load : Cond.instanceMethod yX11_load ∈ lw_gd := xm (i := 715) (by decide +kernel) (by decide +kernel)
theorem se_X11_load : Cond.selects yX11_load.cls yX11_load yX11_load ∈ lw_gd := xm (i := 716) (by decide +kernel) (by decide +kernel)
theorem co_X11_field : Cond.code yX11_field cX11_field 4 (some .int) ∈ lw_gd := xm (i := 726) (by decide +kernel) (by decide +kernel)
theorem mi_X11_field : xMi yX11_field cX11_field 4 (some .int) 2 := ⟨co_X11_field, xm (i := 56) (by decide +kernel) (by decide +kernel), by decide +kernel, by decide +kernel, by decide⟩
theorem im_X11_field : Cond.instanceMethod yX11_field ∈ lw_gd := xm (i := 724) (by decide +kernel) (by decide +kernel)
theorem se_X11_field : Cond.selects yX11_field.cls yX11_field yX11_field ∈ lw_gd := xm (i := 725) (by decide +kernel) (by decide +kernel)
theorem co_X11_judged : Cond.code yX11_judged cX11_judged 3 (some .int) ∈ lw_gd := xm (i := 731) (by decide +kernel) (by decide +kernel)
theorem mi_X11_judged : xMi yX11_judged cX11_judged 3 (some .int) 2 := ⟨co_X11_judged, xm (i := 56) (by decide +kernel) (by decide +kernel), by decide +kernel, by decide +kernel, by decide⟩
theorem im_X11_judged : Cond.instanceMethod yX11_judged ∈ lw_gd := xm (i := 729) (by decide +kernel) (by decide +kernel)
theorem se_X11_judged : Cond.selects yX11_judged.cls yX11_judged yX11_judged ∈ lw_gd := xm (i := 730) (by decide +kernel) (by decide +kernel)
theorem co_X11_turn : Cond.code yX11_turn cX11_turn 3 (some .int) ∈ lw_gd := xm (i := 735) (by decide +kernel) (by decide +kernel)
theorem mi_X11_turn : xMi yX11_turn cX11_turn 3 (some .int) 2 := ⟨co_X11_turn, xm (i := 56) (by decide +kernel) (by decide +kernel), by decide +kernel, by decide +kernel, by decide⟩
theorem im_X11_turn : Cond.instanceMethod yX11_turn ∈ lw_gd := xm (i := 733) (by decide +kernel) (by decide +kernel)
theorem se_X11_turn : Cond.selects yX11_turn.cls yX11_turn yX11_turn ∈ lw_gd := xm (i := 734) (by decide +kernel) (by decide +kernel)
theorem co_X11_lost : Cond.code yX11_lost cX11_lost 5 (some .int) ∈ lw_gd := xm (i := 739) (by decide +kernel) (by decide +kernel)
theorem mi_X11_lost : xMi yX11_lost cX11_lost 5 (some .int) 0 := ⟨co_X11_lost, xm (i := 56) (by decide +kernel) (by decide +kernel), by decide +kernel, by decide +kernel, by decide⟩
theorem im_X11_lost : Cond.instanceMethod yX11_lost ∈ lw_gd := xm (i := 737) (by decide +kernel) (by decide +kernel)
theorem se_X11_lost : Cond.selects yX11_lost.cls yX11_lost yX11_lost ∈ lw_gd := xm (i := 738) (by decide +kernel) (by decide +kernel)
theorem co_X11_look : Cond.code yX11_look cX11_look 2 (some .int) ∈ lw_gd := xm (i := 745) (by decide +kernel) (by decide +kernel)
theorem mi_X11_look : xMi yX11_look cX11_look 2 (some .int) 1 := ⟨co_X11_look, xm (i := 56) (by decide +kernel) (by decide +kernel), by decide +kernel, by decide +kernel, by decide⟩
theorem im_X11_look : Cond.instanceMethod yX11_look ∈ lw_gd := xm (i := 743) (by decide +kernel) (by decide +kernel)
theorem se_X11_look : Cond.selects yX11_look.cls yX11_look yX11_look ∈ lw_gd := xm (i := 744) (by decide +kernel) (by decide +kernel)
theorem co_X11_until : Cond.code yX11_until cX11_until 3 (some .int) ∈ lw_gd := xm (i := 762) (by decide +kernel) (by decide +kernel)
theorem mi_X11_until : xMi yX11_until cX11_until 3 (some .int) 1 := ⟨co_X11_until, xm (i := 56) (by decide +kernel) (by decide +kernel), by decide +kernel, by decide +kernel, by decide⟩
theorem im_X11_until : Cond.instanceMethod yX11_until ∈ lw_gd := xm (i := 760) (by decide +kernel) (by decide +kernel)
theorem se_X11_until : Cond.selects yX11_until.cls yX11_until yX11_until ∈ lw_gd := xm (i := 761) (by decide +kernel) (by decide +kernel)
theorem co_X11_would : Cond.code yX11_would cX11_would 3 (some .int) ∈ lw_gd := xm (i := 766) (by decide +kernel) (by decide +kernel)
theorem mi_X11_would : xMi yX11_would cX11_would 3 (some .int) 2 := ⟨co_X11_would, xm (i := 56) (by decide +kernel) (by decide +kernel), by decide +kernel, by decide +kernel, by decide⟩
theorem im_X11_would : Cond.instanceMethod yX11_would ∈ lw_gd := xm (i := 764) (by decide +kernel) (by decide +kernel)
theorem se_X11_would : Cond.selects yX11_would.cls yX11_would yX11_would ∈ lw_gd := xm (i := 765) (by decide +kernel) (by decide +kernel)
theorem co_X11_worst : Cond.code yX11_worst cX11_worst 6 (some .int) ∈ lw_gd := xm (i := 770) (by decide +kernel) (by decide +kernel)
theorem mi_X11_worst : xMi yX11_worst cX11_worst 6 (some .int) 0 := ⟨co_X11_worst, xm (i := 56) (by decide +kernel) (by decide +kernel), by decide +kernel, by decide +kernel, by decide⟩
theorem im_X11_worst : Cond.instanceMethod yX11_worst ∈ lw_gd := xm (i := 768) (by decide +kernel) (by decide +kernel)
theorem se_X11_worst : Cond.selects yX11_worst.cls yX11_worst yX11_worst ∈ lw_gd := xm (i := 769) (by decide +kernel) (by decide +kernel)
theorem co_X11_regained : Cond.code yX11_regained cX11_regained 2 (some .int) ∈ lw_gd := xm (i := 774) (by decide +kernel) (by decide +kernel)
theorem mi_X11_regained : xMi yX11_regained cX11_regained 2 (some .int) 1 := ⟨co_X11_regained, xm (i := 56) (by decide +kernel) (by decide +kernel), by decide +kernel, by decide +kernel, by decide⟩
theorem im_X11_regained : Cond.instanceMethod yX11_regained ∈ lw_gd := xm (i := 772) (by decide +kernel) (by decide +kernel)
theorem se_X11_regained : Cond.selects yX11_regained.cls yX11_regained yX11_regained ∈ lw_gd := xm (i := 773) (by decide +kernel) (by decide +kernel)
theorem co_X11_spread : Cond.code yX11_spread cX11_spread 9 (some .int) ∈ lw_gd := xm (i := 786) (by decide +kernel) (by decide +kernel)
theorem mi_X11_spread : xMi yX11_spread cX11_spread 9 (some .int) 2 := ⟨co_X11_spread, xm (i := 56) (by decide +kernel) (by decide +kernel), by decide +kernel, by decide +kernel, by decide⟩
theorem im_X11_spread : Cond.instanceMethod yX11_spread ∈ lw_gd := xm (i := 784) (by decide +kernel) (by decide +kernel)
theorem se_X11_spread : Cond.selects yX11_spread.cls yX11_spread yX11_spread ∈ lw_gd := xm (i := 785) (by decide +kernel) (by decide +kernel)
theorem co_X11_rights : Cond.code yX11_rights cX11_rights 7 (some .int) ∈ lw_gd := xm (i := 794) (by decide +kernel) (by decide +kernel)
theorem mi_X11_rights : xMi yX11_rights cX11_rights 7 (some .int) 3 := ⟨co_X11_rights, xm (i := 56) (by decide +kernel) (by decide +kernel), by decide +kernel, by decide +kernel, by decide⟩
theorem im_X11_rights : Cond.instanceMethod yX11_rights ∈ lw_gd := xm (i := 792) (by decide +kernel) (by decide +kernel)
theorem se_X11_rights : Cond.selects yX11_rights.cls yX11_rights yX11_rights ∈ lw_gd := xm (i := 793) (by decide +kernel) (by decide +kernel)
theorem co_X11_phase : Cond.code yX11_phase cX11_phase 5 (some .int) ∈ lw_gd := xm (i := 801) (by decide +kernel) (by decide +kernel)
theorem mi_X11_phase : xMi yX11_phase cX11_phase 5 (some .int) 1 := ⟨co_X11_phase, xm (i := 56) (by decide +kernel) (by decide +kernel), by decide +kernel, by decide +kernel, by decide⟩
theorem im_X11_phase : Cond.instanceMethod yX11_phase ∈ lw_gd := xm (i := 799) (by decide +kernel) (by decide +kernel)
theorem se_X11_phase : Cond.selects yX11_phase.cls yX11_phase yX11_phase ∈ lw_gd := xm (i := 800) (by decide +kernel) (by decide +kernel)
theorem co_X11_tuned : Cond.code yX11_tuned cX11_tuned 6 (some .int) ∈ lw_gd := xm (i := 810) (by decide +kernel) (by decide +kernel)
theorem mi_X11_tuned : xMi yX11_tuned cX11_tuned 6 (some .int) 1 := ⟨co_X11_tuned, xm (i := 56) (by decide +kernel) (by decide +kernel), by decide +kernel, by decide +kernel, by decide⟩
theorem im_X11_tuned : Cond.instanceMethod yX11_tuned ∈ lw_gd := xm (i := 808) (by decide +kernel) (by decide +kernel)
theorem se_X11_tuned : Cond.selects yX11_tuned.cls yX11_tuned yX11_tuned ∈ lw_gd := xm (i := 809) (by decide +kernel) (by decide +kernel)
theorem co_X11_starts : Cond.code yX11_starts cX11_starts 8 (some .int) ∈ lw_gd := xm (i := 814) (by decide +kernel) (by decide +kernel)
theorem mi_X11_starts : xMi yX11_starts cX11_starts 8 (some .int) 1 := ⟨co_X11_starts, xm (i := 56) (by decide +kernel) (by decide +kernel), by decide +kernel, by decide +kernel, by decide⟩
theorem im_X11_starts : Cond.instanceMethod yX11_starts ∈ lw_gd := xm (i := 812) (by decide +kernel) (by decide +kernel)
theorem se_X11_starts : Cond.selects yX11_starts.cls yX11_starts yX11_starts ∈ lw_gd := xm (i := 813) (by decide +kernel) (by decide +kernel)
theorem co_X11_check : Cond.code yX11_check cX11_check 2 (some .int) ∈ lw_gd := xm (i := 819) (by decide +kernel) (by decide +kernel)
theorem mi_X11_check : xMi yX11_check cX11_check 2 (some .int) 1 := ⟨co_X11_check, xm (i := 56) (by decide +kernel) (by decide +kernel), by decide +kernel, by decide +kernel, by decide⟩
theorem im_X11_check : Cond.instanceMethod yX11_check ∈ lw_gd := xm (i := 817) (by decide +kernel) (by decide +kernel)
theorem se_X11_check : Cond.selects yX11_check.cls yX11_check yX11_check ∈ lw_gd := xm (i := 818) (by decide +kernel) (by decide +kernel)
theorem co_X11_syndrome : Cond.code yX11_syndrome cX11_syndrome 3 (some .int) ∈ lw_gd := xm (i := 824) (by decide +kernel) (by decide +kernel)
theorem mi_X11_syndrome : xMi yX11_syndrome cX11_syndrome 3 (some .int) 2 := ⟨co_X11_syndrome, xm (i := 56) (by decide +kernel) (by decide +kernel), by decide +kernel, by decide +kernel, by decide⟩
theorem im_X11_syndrome : Cond.instanceMethod yX11_syndrome ∈ lw_gd := xm (i := 822) (by decide +kernel) (by decide +kernel)
theorem se_X11_syndrome : Cond.selects yX11_syndrome.cls yX11_syndrome yX11_syndrome ∈ lw_gd := xm (i := 823) (by decide +kernel) (by decide +kernel)
theorem co_X11_single : Cond.code yX11_single cX11_single 2 (some .int) ∈ lw_gd := xm (i := 831) (by decide +kernel) (by decide +kernel)
theorem mi_X11_single : xMi yX11_single cX11_single 2 (some .int) 1 := ⟨co_X11_single, xm (i := 56) (by decide +kernel) (by decide +kernel), by decide +kernel, by decide +kernel, by decide⟩
theorem im_X11_single : Cond.instanceMethod yX11_single ∈ lw_gd := xm (i := 829) (by decide +kernel) (by decide +kernel)
theorem se_X11_single : Cond.selects yX11_single.cls yX11_single yX11_single ∈ lw_gd := xm (i := 830) (by decide +kernel) (by decide +kernel)
theorem co_X11_latest : Cond.code yX11_latest cX11_latest 8 (some .int) ∈ lw_gd := xm (i := 836) (by decide +kernel) (by decide +kernel)
theorem mi_X11_latest : xMi yX11_latest cX11_latest 8 (some .int) 1 := ⟨co_X11_latest, xm (i := 56) (by decide +kernel) (by decide +kernel), by decide +kernel, by decide +kernel, by decide⟩
theorem im_X11_latest : Cond.instanceMethod yX11_latest ∈ lw_gd := xm (i := 834) (by decide +kernel) (by decide +kernel)
theorem se_X11_latest : Cond.selects yX11_latest.cls yX11_latest yX11_latest ∈ lw_gd := xm (i := 835) (by decide +kernel) (by decide +kernel)
theorem co_X11_pairs : Cond.code yX11_pairs cX11_pairs 3 (some .int) ∈ lw_gd := xm (i := 840) (by decide +kernel) (by decide +kernel)
theorem mi_X11_pairs : xMi yX11_pairs cX11_pairs 3 (some .int) 2 := ⟨co_X11_pairs, xm (i := 56) (by decide +kernel) (by decide +kernel), by decide +kernel, by decide +kernel, by decide⟩
theorem im_X11_pairs : Cond.instanceMethod yX11_pairs ∈ lw_gd := xm (i := 838) (by decide +kernel) (by decide +kernel)
theorem se_X11_pairs : Cond.selects yX11_pairs.cls yX11_pairs yX11_pairs ∈ lw_gd := xm (i := 839) (by decide +kernel) (by decide +kernel)
theorem co_X11_nearest : Cond.code yX11_nearest cX11_nearest 4 (some .int) ∈ lw_gd := xm (i := 852) (by decide +kernel) (by decide +kernel)
theorem mi_X11_nearest : xMi yX11_nearest cX11_nearest 4 (some .int) 2 := ⟨co_X11_nearest, xm (i := 56) (by decide +kernel) (by decide +kernel), by decide +kernel, by decide +kernel, by decide⟩
theorem im_X11_nearest : Cond.instanceMethod yX11_nearest ∈ lw_gd := xm (i := 850) (by decide +kernel) (by decide +kernel)
theorem se_X11_nearest : Cond.selects yX11_nearest.cls yX11_nearest yX11_nearest ∈ lw_gd := xm (i := 851) (by decide +kernel) (by decide +kernel)
theorem co_X11_mending : Cond.code yX11_mending cX11_mending 6 (some .int) ∈ lw_gd := xm (i := 868) (by decide +kernel) (by decide +kernel)
theorem mi_X11_mending : xMi yX11_mending cX11_mending 6 (some .int) 3 := ⟨co_X11_mending, xm (i := 56) (by decide +kernel) (by decide +kernel), by decide +kernel, by decide +kernel, by decide⟩
theorem im_X11_mending : Cond.instanceMethod yX11_mending ∈ lw_gd := xm (i := 866) (by decide +kernel) (by decide +kernel)
theorem se_X11_mending : Cond.selects yX11_mending.cls yX11_mending yX11_mending ∈ lw_gd := xm (i := 867) (by decide +kernel) (by decide +kernel)
theorem co_X11_words : Cond.code yX11_words cX11_words 2 (some .long) ∈ lw_gd := xm (i := 876) (by decide +kernel) (by decide +kernel)
theorem mi_X11_words : xMi yX11_words cX11_words 2 (some .long) 1 := ⟨co_X11_words, xm (i := 56) (by decide +kernel) (by decide +kernel), by decide +kernel, by decide +kernel, by decide⟩
theorem im_X11_words : Cond.instanceMethod yX11_words ∈ lw_gd := xm (i := 874) (by decide +kernel) (by decide +kernel)
theorem se_X11_words : Cond.selects yX11_words.cls yX11_words yX11_words ∈ lw_gd := xm (i := 875) (by decide +kernel) (by decide +kernel)
theorem co_X11_cases : Cond.code yX11_cases cX11_cases 7 (some .long) ∈ lw_gd := xm (i := 908) (by decide +kernel) (by decide +kernel)
theorem mi_X11_cases : xMi yX11_cases cX11_cases 7 (some .long) 2 := ⟨co_X11_cases, xm (i := 56) (by decide +kernel) (by decide +kernel), by decide +kernel, by decide +kernel, by decide⟩
theorem im_X11_cases : Cond.instanceMethod yX11_cases ∈ lw_gd := xm (i := 906) (by decide +kernel) (by decide +kernel)
theorem se_X11_cases : Cond.selects yX11_cases.cls yX11_cases yX11_cases ∈ lw_gd := xm (i := 907) (by decide +kernel) (by decide +kernel)
theorem co_X11_unseen : Cond.code yX11_unseen cX11_unseen 3 (some .long) ∈ lw_gd := xm (i := 921) (by decide +kernel) (by decide +kernel)
theorem mi_X11_unseen : xMi yX11_unseen cX11_unseen 3 (some .long) 2 := ⟨co_X11_unseen, xm (i := 56) (by decide +kernel) (by decide +kernel), by decide +kernel, by decide +kernel, by decide⟩
theorem im_X11_unseen : Cond.instanceMethod yX11_unseen ∈ lw_gd := xm (i := 919) (by decide +kernel) (by decide +kernel)
theorem se_X11_unseen : Cond.selects yX11_unseen.cls yX11_unseen yX11_unseen ∈ lw_gd := xm (i := 920) (by decide +kernel) (by decide +kernel)
theorem co_X11_odds : Cond.code yX11_odds cX11_odds 5 (some .long) ∈ lw_gd := xm (i := 944) (by decide +kernel) (by decide +kernel)
theorem mi_X11_odds : xMi yX11_odds cX11_odds 5 (some .long) 4 := ⟨co_X11_odds, xm (i := 56) (by decide +kernel) (by decide +kernel), by decide +kernel, by decide +kernel, by decide⟩
theorem im_X11_odds : Cond.instanceMethod yX11_odds ∈ lw_gd := xm (i := 942) (by decide +kernel) (by decide +kernel)
theorem se_X11_odds : Cond.selects yX11_odds.cls yX11_odds yX11_odds ∈ lw_gd := xm (i := 943) (by decide +kernel) (by decide +kernel)
theorem co_X11_mean : Cond.code yX11_mean cX11_mean 7 (some .long) ∈ lw_gd := xm (i := 965) (by decide +kernel) (by decide +kernel)
theorem mi_X11_mean : xMi yX11_mean cX11_mean 7 (some .long) 3 := ⟨co_X11_mean, xm (i := 56) (by decide +kernel) (by decide +kernel), by decide +kernel, by decide +kernel, by decide⟩
theorem im_X11_mean : Cond.instanceMethod yX11_mean ∈ lw_gd := xm (i := 963) (by decide +kernel) (by decide +kernel)
theorem se_X11_mean : Cond.selects yX11_mean.cls yX11_mean yX11_mean ∈ lw_gd := xm (i := 964) (by decide +kernel) (by decide +kernel)
theorem co_X11_half : Cond.code yX11_half cX11_half 4 (some .int) ∈ lw_gd := xm (i := 977) (by decide +kernel) (by decide +kernel)
theorem mi_X11_half : xMi yX11_half cX11_half 4 (some .int) 2 := ⟨co_X11_half, xm (i := 56) (by decide +kernel) (by decide +kernel), by decide +kernel, by decide +kernel, by decide⟩
theorem im_X11_half : Cond.instanceMethod yX11_half ∈ lw_gd := xm (i := 975) (by decide +kernel) (by decide +kernel)
