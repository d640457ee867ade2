/-! which words the methods want of the tables -/
set_option maxRecDepth 100000 in
theorem ac_0_41 : Cond.methodLink RX0 41 arraycopyName ∈ tG ∧ Cond.native arraycopyName ∈ tG ∧ Cond.static arraycopyName ∈ tG ∧ Cond.initialized "java/lang/System" ∈ tG := ⟨tGm (i := 602) (by decide +kernel) (by decide +kernel), tGm (i := 89) (by decide +kernel) (by decide +kernel), tGm (i := 88) (by decide +kernel) (by decide +kernel), tGm (i := 55) (by decide +kernel) (by decide +kernel)⟩
set_option maxRecDepth 100000 in
theorem ac_1_44 : Cond.methodLink RX1 44 arraycopyName ∈ tG ∧ Cond.native arraycopyName ∈ tG ∧ Cond.static arraycopyName ∈ tG ∧ Cond.initialized "java/lang/System" ∈ tG := ⟨tGm (i := 679) (by decide +kernel) (by decide +kernel), tGm (i := 89) (by decide +kernel) (by decide +kernel), tGm (i := 88) (by decide +kernel) (by decide +kernel), tGm (i := 55) (by decide +kernel) (by decide +kernel)⟩
set_option maxRecDepth 100000 in
theorem ac_2_26 : Cond.methodLink RX2 26 arraycopyName ∈ tG ∧ Cond.native arraycopyName ∈ tG ∧ Cond.static arraycopyName ∈ tG ∧ Cond.initialized "java/lang/System" ∈ tG := ⟨tGm (i := 87) (by decide +kernel) (by decide +kernel), tGm (i := 89) (by decide +kernel) (by decide +kernel), tGm (i := 88) (by decide +kernel) (by decide +kernel), tGm (i := 55) (by decide +kernel) (by decide +kernel)⟩
set_option maxRecDepth 100000 in
theorem ac_6_280 : Cond.methodLink RX6 280 arraycopyName ∈ tG ∧ Cond.native arraycopyName ∈ tG ∧ Cond.static arraycopyName ∈ tG ∧ Cond.initialized "java/lang/System" ∈ tG := ⟨tGm (i := 883) (by decide +kernel) (by decide +kernel), tGm (i := 89) (by decide +kernel) (by decide +kernel), tGm (i := 88) (by decide +kernel) (by decide +kernel), tGm (i := 55) (by decide +kernel) (by decide +kernel)⟩
set_option maxRecDepth 100000 in
theorem ci_6_208 : Cond.constant RX6 208 (Int32.ofInt 1000000) ∈ tG := tGm (i := 764) (by decide +kernel) (by decide +kernel)
set_option maxRecDepth 100000 in
theorem ci_6_233 : Cond.constant RX6 233 (Int32.ofInt (-100001)) ∈ tG := tGm (i := 808) (by decide +kernel) (by decide +kernel)
set_option maxRecDepth 100000 in
theorem ci_7_272 : Cond.constant RX7 272 (Int32.ofInt (-100001)) ∈ tG := tGm (i := 1225) (by decide +kernel) (by decide +kernel)
set_option maxRecDepth 100000 in
theorem cl_6_289 : Cond.constantLong RX6 289 (Int64.ofInt 255) ∈ tG := tGm (i := 465) (by decide +kernel) (by decide +kernel)
set_option maxRecDepth 100000 in
theorem cl_7_108 : Cond.constantLong RX7 108 (Int64.ofInt 3) ∈ tG := tGm (i := 1030) (by decide +kernel) (by decide +kernel)
set_option maxRecDepth 100000 in
theorem cl_7_110 : Cond.constantLong RX7 110 (Int64.ofInt 10) ∈ tG := tGm (i := 1031) (by decide +kernel) (by decide +kernel)
set_option maxRecDepth 100000 in
theorem cl_7_112 : Cond.constantLong RX7 112 (Int64.ofInt 2) ∈ tG := tGm (i := 1035) (by decide +kernel) (by decide +kernel)
set_option maxRecDepth 100000 in
theorem cl_7_122 : Cond.constantLong RX7 122 (Int64.ofInt 9) ∈ tG := tGm (i := 1051) (by decide +kernel) (by decide +kernel)
set_option maxRecDepth 100000 in
theorem cl_7_124 : Cond.constantLong RX7 124 (Int64.ofInt 40) ∈ tG := tGm (i := 1052) (by decide +kernel) (by decide +kernel)
set_option maxRecDepth 100000 in
theorem cl_7_129 : Cond.constantLong RX7 129 (Int64.ofInt 99) ∈ tG := tGm (i := 1057) (by decide +kernel) (by decide +kernel)
set_option maxRecDepth 100000 in
theorem cl_7_131 : Cond.constantLong RX7 131 (Int64.ofInt 26) ∈ tG := tGm (i := 1058) (by decide +kernel) (by decide +kernel)
set_option maxRecDepth 100000 in
theorem cl_7_139 : Cond.constantLong RX7 139 (Int64.ofInt 4) ∈ tG := tGm (i := 1063) (by decide +kernel) (by decide +kernel)
set_option maxRecDepth 100000 in
theorem cl_7_152 : Cond.constantLong RX7 152 (Int64.ofInt 8) ∈ tG := tGm (i := 1087) (by decide +kernel) (by decide +kernel)
set_option maxRecDepth 100000 in
theorem cl_7_154 : Cond.constantLong RX7 154 (Int64.ofInt 255) ∈ tG := tGm (i := 1088) (by decide +kernel) (by decide +kernel)
set_option maxRecDepth 100000 in
theorem cl_7_156 : Cond.constantLong RX7 156 (Int64.ofInt 32) ∈ tG := tGm (i := 1089) (by decide +kernel) (by decide +kernel)
set_option maxRecDepth 100000 in
theorem cl_7_158 : Cond.constantLong RX7 158 (Int64.ofInt 126) ∈ tG := tGm (i := 1090) (by decide +kernel) (by decide +kernel)
set_option maxRecDepth 100000 in
theorem cl_7_174 : Cond.constantLong RX7 174 (Int64.ofInt 48) ∈ tG := tGm (i := 1103) (by decide +kernel) (by decide +kernel)
set_option maxRecDepth 100000 in
theorem cl_7_176 : Cond.constantLong RX7 176 (Int64.ofInt 57) ∈ tG := tGm (i := 1104) (by decide +kernel) (by decide +kernel)
set_option maxRecDepth 100000 in
theorem cl_7_254 : Cond.constantLong RX7 254 (Int64.ofInt 6) ∈ tG := tGm (i := 1189) (by decide +kernel) (by decide +kernel)
theorem fd_0_0 : jFd 0 0 10 true := by decide +kernel
theorem fd_0_1 : jFd 0 1 11 true := by decide +kernel
theorem fd_0_10 : jFd 0 10 20 false := by decide +kernel
theorem fd_0_11 : jFd 0 11 20 false := by decide +kernel
theorem fd_0_12 : jFd 0 12 20 false := by decide +kernel
theorem fd_0_13 : jFd 0 13 20 false := by decide +kernel
theorem fd_0_14 : jFd 0 14 20 false := by decide +kernel
theorem fd_0_15 : jFd 0 15 20 false := by decide +kernel
theorem fd_0_2 : jFd 0 2 8 true := by decide +kernel
theorem fd_0_3 : jFd 0 3 8 true := by decide +kernel
theorem fd_0_4 : jFd 0 4 8 true := by decide +kernel
theorem fd_0_5 : jFd 0 5 20 false := by decide +kernel
theorem fd_0_6 : jFd 0 6 20 false := by decide +kernel
theorem fd_0_7 : jFd 0 7 20 false := by decide +kernel
theorem fd_0_8 : jFd 0 8 20 false := by decide +kernel
theorem fd_0_9 : jFd 0 9 20 false := by decide +kernel
theorem fd_1_0 : jFd 1 0 8 true := by decide +kernel
theorem fd_1_1 : jFd 1 1 20 false := by decide +kernel
theorem fd_1_2 : jFd 1 2 20 false := by decide +kernel
theorem fd_1_3 : jFd 1 3 20 false := by decide +kernel
theorem fd_1_4 : jFd 1 4 20 false := by decide +kernel
theorem fd_1_5 : jFd 1 5 20 false := by decide +kernel
theorem fd_2_0 : jFd 2 0 9 true := by decide +kernel
theorem fd_2_1 : jFd 2 1 9 true := by decide +kernel
theorem fd_2_2 : jFd 2 2 8 true := by decide +kernel
theorem fd_2_3 : jFd 2 3 20 false := by decide +kernel
theorem fd_2_4 : jFd 2 4 20 false := by decide +kernel
theorem fd_2_5 : jFd 2 5 20 false := by decide +kernel
theorem fd_2_6 : jFd 2 6 20 false := by decide +kernel
theorem fd_3_0 : jFd 3 0 20 false := by decide +kernel
theorem fd_3_1 : jFd 3 1 20 false := by decide +kernel
theorem fd_3_10 : jFd 3 10 22 false := by decide +kernel
theorem fd_3_2 : jFd 3 2 20 false := by decide +kernel
theorem fd_3_3 : jFd 3 3 20 false := by decide +kernel
theorem fd_3_4 : jFd 3 4 20 false := by decide +kernel
theorem fd_3_5 : jFd 3 5 20 false := by decide +kernel
theorem fd_3_6 : jFd 3 6 20 false := by decide +kernel
theorem fd_3_7 : jFd 3 7 20 false := by decide +kernel
theorem fd_3_8 : jFd 3 8 20 false := by decide +kernel
theorem fd_3_9 : jFd 3 9 20 false := by decide +kernel
theorem fd_4_0 : jFd 4 0 8 true := by decide +kernel
theorem fd_4_1 : jFd 4 1 22 false := by decide +kernel
theorem fd_4_2 : jFd 4 2 20 false := by decide +kernel
theorem fd_4_3 : jFd 4 3 20 false := by decide +kernel
theorem fd_5_0 : jFd 5 0 8 true := by decide +kernel
theorem fd_5_1 : jFd 5 1 20 false := by decide +kernel
theorem fd_5_2 : jFd 5 2 9 true := by decide +kernel
theorem fd_5_3 : jFd 5 3 20 false := by decide +kernel
theorem fd_5_4 : jFd 5 4 20 false := by decide +kernel
theorem fd_6_0 : jFd 6 0 2 true := by decide +kernel
theorem fd_6_1 : jFd 6 1 2 true := by decide +kernel
theorem fd_6_10 : jFd 6 10 20 false := by decide +kernel
theorem fd_6_11 : jFd 6 11 20 false := by decide +kernel
theorem fd_6_12 : jFd 6 12 20 false := by decide +kernel
theorem fd_6_2 : jFd 6 2 22 false := by decide +kernel
theorem fd_6_3 : jFd 6 3 5 true := by decide +kernel
theorem fd_6_4 : jFd 6 4 12 true := by decide +kernel
theorem fd_6_5 : jFd 6 5 0 true := by decide +kernel
theorem fd_6_6 : jFd 6 6 0 true := by decide +kernel
theorem fd_6_7 : jFd 6 7 0 true := by decide +kernel
theorem fd_6_8 : jFd 6 8 22 false := by decide +kernel
theorem fd_6_9 : jFd 6 9 20 false := by decide +kernel
theorem fd_7_0 : jFd 7 0 8 true := by decide +kernel
theorem fd_7_1 : jFd 7 1 20 false := by decide +kernel
theorem fd_7_10 : jFd 7 10 22 false := by decide +kernel
theorem fd_7_11 : jFd 7 11 8 true := by decide +kernel
theorem fd_7_12 : jFd 7 12 8 true := by decide +kernel
theorem fd_7_13 : jFd 7 13 8 true := by decide +kernel
theorem fd_7_14 : jFd 7 14 8 true := by decide +kernel
theorem fd_7_15 : jFd 7 15 20 false := by decide +kernel
theorem fd_7_16 : jFd 7 16 20 false := by decide +kernel
theorem fd_7_17 : jFd 7 17 20 false := by decide +kernel
theorem fd_7_18 : jFd 7 18 8 true := by decide +kernel
theorem fd_7_19 : jFd 7 19 8 true := by decide +kernel
theorem fd_7_2 : jFd 7 2 8 true := by decide +kernel
theorem fd_7_20 : jFd 7 20 8 true := by decide +kernel
theorem fd_7_21 : jFd 7 21 8 true := by decide +kernel
theorem fd_7_22 : jFd 7 22 8 true := by decide +kernel
theorem fd_7_23 : jFd 7 23 8 true := by decide +kernel
theorem fd_7_24 : jFd 7 24 8 true := by decide +kernel
theorem fd_7_25 : jFd 7 25 8 true := by decide +kernel
theorem fd_7_26 : jFd 7 26 8 true := by decide +kernel
theorem fd_7_27 : jFd 7 27 8 true := by decide +kernel
theorem fd_7_28 : jFd 7 28 8 true := by decide +kernel
theorem fd_7_29 : jFd 7 29 8 true := by decide +kernel
theorem fd_7_3 : jFd 7 3 20 false := by decide +kernel
theorem fd_7_30 : jFd 7 30 8 true := by decide +kernel
theorem fd_7_31 : jFd 7 31 20 false := by decide +kernel
theorem fd_7_32 : jFd 7 32 20 false := by decide +kernel
theorem fd_7_33 : jFd 7 33 20 false := by decide +kernel
theorem fd_7_34 : jFd 7 34 20 false := by decide +kernel
theorem fd_7_35 : jFd 7 35 8 true := by decide +kernel
theorem fd_7_36 : jFd 7 36 8 true := by decide +kernel
theorem fd_7_37 : jFd 7 37 8 true := by decide +kernel
theorem fd_7_38 : jFd 7 38 8 true := by decide +kernel
theorem fd_7_39 : jFd 7 39 22 false := by decide +kernel
theorem fd_7_4 : jFd 7 4 20 false := by decide +kernel
theorem fd_7_40 : jFd 7 40 8 true := by decide +kernel
theorem fd_7_41 : jFd 7 41 8 true := by decide +kernel
theorem fd_7_42 : jFd 7 42 8 true := by decide +kernel
theorem fd_7_43 : jFd 7 43 8 true := by decide +kernel
theorem fd_7_5 : jFd 7 5 20 false := by decide +kernel
theorem fd_7_6 : jFd 7 6 8 true := by decide +kernel
theorem fd_7_7 : jFd 7 7 8 true := by decide +kernel
theorem fd_7_8 : jFd 7 8 20 false := by decide +kernel
theorem fd_7_9 : jFd 7 9 20 false := by decide +kernel
set_option maxRecDepth 100000 in
theorem fl_0_101 : Cond.fieldLink RX0 101 (c_T 2 1).1 (c_T 2 1).2.1 (c_T 2 1).2.2.1 ∈ tG := tGm (i := 94) (by decide +kernel) (by decide +kernel)
set_option maxRecDepth 100000 in
theorem fl_0_109 : Cond.fieldLink RX0 109 (c_T 3 0).1 (c_T 3 0).2.1 (c_T 3 0).2.2.1 ∈ tG := tGm (i := 184) (by decide +kernel) (by decide +kernel)
set_option maxRecDepth 100000 in
theorem fl_0_11 : Cond.fieldLink RX0 11 (c_T 0 0).1 (c_T 0 0).2.1 (c_T 0 0).2.2.1 ∈ tG := tGm (i := 279) (by decide +kernel) (by decide +kernel)
set_option maxRecDepth 100000 in
theorem fl_0_112 : Cond.fieldLink RX0 112 (c_T 0 10).1 (c_T 0 10).2.1 (c_T 0 10).2.2.1 ∈ tG := tGm (i := 292) (by decide +kernel) (by decide +kernel)
set_option maxRecDepth 100000 in
theorem fl_0_115 : Cond.fieldLink RX0 115 (c_T 0 11).1 (c_T 0 11).2.1 (c_T 0 11).2.2.1 ∈ tG := tGm (i := 293) (by decide +kernel) (by decide +kernel)
set_option maxRecDepth 100000 in
theorem fl_0_133 : Cond.fieldLink RX0 133 (c_T 1 2).1 (c_T 1 2).2.1 (c_T 1 2).2.2.1 ∈ tG := tGm (i := 259) (by decide +kernel) (by decide +kernel)
set_option maxRecDepth 100000 in
theorem fl_0_136 : Cond.fieldLink RX0 136 (c_T 1 3).1 (c_T 1 3).2.1 (c_T 1 3).2.2.1 ∈ tG := tGm (i := 261) (by decide +kernel) (by decide +kernel)
set_option maxRecDepth 100000 in
theorem fl_0_159 : Cond.fieldLink RX0 159 (c_T 1 5).1 (c_T 1 5).2.1 (c_T 1 5).2.2.1 ∈ tG := tGm (i := 265) (by decide +kernel) (by decide +kernel)
set_option maxRecDepth 100000 in
theorem fl_0_174 : Cond.fieldLink RX0 174 (c_T 3 4).1 (c_T 3 4).2.1 (c_T 3 4).2.2.1 ∈ tG := tGm (i := 192) (by decide +kernel) (by decide +kernel)
set_option maxRecDepth 100000 in
theorem fl_0_183 : Cond.fieldLink RX0 183 (c_T 3 5).1 (c_T 3 5).2.1 (c_T 3 5).2.2.1 ∈ tG := tGm (i := 195) (by decide +kernel) (by decide +kernel)
set_option maxRecDepth 100000 in
theorem fl_0_19 : Cond.fieldLink RX0 19 (c_T 0 1).1 (c_T 0 1).2.1 (c_T 0 1).2.2.1 ∈ tG := tGm (i := 281) (by decide +kernel) (by decide +kernel)
set_option maxRecDepth 100000 in
theorem fl_0_208 : Cond.fieldLink RX0 208 (c_T 1 1).1 (c_T 1 1).2.1 (c_T 1 1).2.2.1 ∈ tG := tGm (i := 257) (by decide +kernel) (by decide +kernel)
set_option maxRecDepth 100000 in
theorem fl_0_214 : Cond.fieldLink RX0 214 (c_T 3 8).1 (c_T 3 8).2.1 (c_T 3 8).2.2.1 ∈ tG := tGm (i := 202) (by decide +kernel) (by decide +kernel)
set_option maxRecDepth 100000 in
theorem fl_0_217 : Cond.fieldLink RX0 217 (c_T 3 7).1 (c_T 3 7).2.1 (c_T 3 7).2.2.1 ∈ tG := tGm (i := 200) (by decide +kernel) (by decide +kernel)
set_option maxRecDepth 100000 in
theorem fl_0_220 : Cond.fieldLink RX0 220 (c_T 3 3).1 (c_T 3 3).2.1 (c_T 3 3).2.2.1 ∈ tG := tGm (i := 190) (by decide +kernel) (by decide +kernel)
set_option maxRecDepth 100000 in
theorem fl_0_223 : Cond.fieldLink RX0 223 (c_T 3 2).1 (c_T 3 2).2.1 (c_T 3 2).2.2.1 ∈ tG := tGm (i := 188) (by decide +kernel) (by decide +kernel)
set_option maxRecDepth 100000 in
theorem fl_0_237 : Cond.fieldLink RX0 237 (c_T 3 6).1 (c_T 3 6).2.1 (c_T 3 6).2.2.1 ∈ tG := tGm (i := 198) (by decide +kernel) (by decide +kernel)
set_option maxRecDepth 100000 in
theorem fl_0_243 : Cond.fieldLink RX0 243 (c_T 3 1).1 (c_T 3 1).2.1 (c_T 3 1).2.2.1 ∈ tG := tGm (i := 186) (by decide +kernel) (by decide +kernel)
set_option maxRecDepth 100000 in
theorem fl_0_250 : Cond.fieldLink RX0 250 (c_T 1 0).1 (c_T 1 0).2.1 (c_T 1 0).2.2.1 ∈ tG := tGm (i := 255) (by decide +kernel) (by decide +kernel)
set_option maxRecDepth 100000 in
theorem fl_0_258 : Cond.fieldLink RX0 258 (c_T 1 4).1 (c_T 1 4).2.1 (c_T 1 4).2.2.1 ∈ tG := tGm (i := 263) (by decide +kernel) (by decide +kernel)
set_option maxRecDepth 100000 in
theorem fl_0_264 : Cond.fieldLink RX0 264 (c_T 3 10).1 (c_T 3 10).2.1 (c_T 3 10).2.2.1 ∈ tG := tGm (i := 208) (by decide +kernel) (by decide +kernel)
set_option maxRecDepth 100000 in
theorem fl_0_27 : Cond.fieldLink RX0 27 (c_T 0 2).1 (c_T 0 2).2.1 (c_T 0 2).2.2.1 ∈ tG := tGm (i := 283) (by decide +kernel) (by decide +kernel)
set_option maxRecDepth 100000 in
theorem fl_0_271 : Cond.fieldLink RX0 271 (c_T 3 9).1 (c_T 3 9).2.1 (c_T 3 9).2.2.1 ∈ tG := tGm (i := 205) (by decide +kernel) (by decide +kernel)
set_option maxRecDepth 100000 in
theorem fl_0_30 : Cond.fieldLink RX0 30 (c_T 0 3).1 (c_T 0 3).2.1 (c_T 0 3).2.2.1 ∈ tG := tGm (i := 285) (by decide +kernel) (by decide +kernel)
set_option maxRecDepth 100000 in
theorem fl_0_33 : Cond.fieldLink RX0 33 (c_T 0 4).1 (c_T 0 4).2.1 (c_T 0 4).2.2.1 ∈ tG := tGm (i := 286) (by decide +kernel) (by decide +kernel)
set_option maxRecDepth 100000 in
theorem fl_0_38 : Cond.fieldLink RX0 38 (c_T 2 2).1 (c_T 2 2).2.1 (c_T 2 2).2.2.1 ∈ tG := tGm (i := 97) (by decide +kernel) (by decide +kernel)
set_option maxRecDepth 100000 in
theorem fl_0_53 : Cond.fieldLink RX0 53 (c_T 2 3).1 (c_T 2 3).2.1 (c_T 2 3).2.2.1 ∈ tG := tGm (i := 99) (by decide +kernel) (by decide +kernel)
set_option maxRecDepth 100000 in
theorem fl_0_57 : Cond.fieldLink RX0 57 (c_T 0 5).1 (c_T 0 5).2.1 (c_T 0 5).2.2.1 ∈ tG := tGm (i := 287) (by decide +kernel) (by decide +kernel)
set_option maxRecDepth 100000 in
theorem fl_0_58 : Cond.fieldLink RX0 58 (c_T 2 4).1 (c_T 2 4).2.1 (c_T 2 4).2.2.1 ∈ tG := tGm (i := 102) (by decide +kernel) (by decide +kernel)
set_option maxRecDepth 100000 in
theorem fl_0_61 : Cond.fieldLink RX0 61 (c_T 0 6).1 (c_T 0 6).2.1 (c_T 0 6).2.2.1 ∈ tG := tGm (i := 288) (by decide +kernel) (by decide +kernel)
set_option maxRecDepth 100000 in
theorem fl_0_62 : Cond.fieldLink RX0 62 (c_T 0 7).1 (c_T 0 7).2.1 (c_T 0 7).2.2.1 ∈ tG := tGm (i := 289) (by decide +kernel) (by decide +kernel)
set_option maxRecDepth 100000 in
theorem fl_0_65 : Cond.fieldLink RX0 65 (c_T 0 8).1 (c_T 0 8).2.1 (c_T 0 8).2.2.1 ∈ tG := tGm (i := 290) (by decide +kernel) (by decide +kernel)
set_option maxRecDepth 100000 in
theorem fl_0_68 : Cond.fieldLink RX0 68 (c_T 0 9).1 (c_T 0 9).2.1 (c_T 0 9).2.2.1 ∈ tG := tGm (i := 291) (by decide +kernel) (by decide +kernel)
set_option maxRecDepth 100000 in
theorem fl_0_71 : Cond.fieldLink RX0 71 (c_T 0 12).1 (c_T 0 12).2.1 (c_T 0 12).2.2.1 ∈ tG := tGm (i := 294) (by decide +kernel) (by decide +kernel)
set_option maxRecDepth 100000 in
theorem fl_0_74 : Cond.fieldLink RX0 74 (c_T 0 13).1 (c_T 0 13).2.1 (c_T 0 13).2.2.1 ∈ tG := tGm (i := 296) (by decide +kernel) (by decide +kernel)
set_option maxRecDepth 100000 in
theorem fl_0_77 : Cond.fieldLink RX0 77 (c_T 0 14).1 (c_T 0 14).2.1 (c_T 0 14).2.2.1 ∈ tG := tGm (i := 298) (by decide +kernel) (by decide +kernel)
set_option maxRecDepth 100000 in
theorem fl_0_80 : Cond.fieldLink RX0 80 (c_T 0 15).1 (c_T 0 15).2.1 (c_T 0 15).2.2.1 ∈ tG := tGm (i := 300) (by decide +kernel) (by decide +kernel)
set_option maxRecDepth 100000 in
theorem fl_0_83 : Cond.fieldLink RX0 83 (c_T 2 5).1 (c_T 2 5).2.1 (c_T 2 5).2.2.1 ∈ tG := tGm (i := 105) (by decide +kernel) (by decide +kernel)
set_option maxRecDepth 100000 in
theorem fl_0_86 : Cond.fieldLink RX0 86 (c_T 2 6).1 (c_T 2 6).2.1 (c_T 2 6).2.2.1 ∈ tG := tGm (i := 108) (by decide +kernel) (by decide +kernel)
set_option maxRecDepth 100000 in
theorem fl_0_93 : Cond.fieldLink RX0 93 (c_T 2 0).1 (c_T 2 0).2.1 (c_T 2 0).2.2.1 ∈ tG := tGm (i := 92) (by decide +kernel) (by decide +kernel)
set_option maxRecDepth 100000 in
theorem fl_1_15 : Cond.fieldLink RX1 15 (c_T 1 1).1 (c_T 1 1).2.1 (c_T 1 1).2.2.1 ∈ tG := tGm (i := 256) (by decide +kernel) (by decide +kernel)
set_option maxRecDepth 100000 in
theorem fl_1_32 : Cond.fieldLink RX1 32 (c_T 1 2).1 (c_T 1 2).2.1 (c_T 1 2).2.2.1 ∈ tG := tGm (i := 258) (by decide +kernel) (by decide +kernel)
set_option maxRecDepth 100000 in
theorem fl_1_35 : Cond.fieldLink RX1 35 (c_T 1 3).1 (c_T 1 3).2.1 (c_T 1 3).2.2.1 ∈ tG := tGm (i := 260) (by decide +kernel) (by decide +kernel)
set_option maxRecDepth 100000 in
theorem fl_1_38 : Cond.fieldLink RX1 38 (c_T 1 4).1 (c_T 1 4).2.1 (c_T 1 4).2.2.1 ∈ tG := tGm (i := 262) (by decide +kernel) (by decide +kernel)
set_option maxRecDepth 100000 in
theorem fl_1_50 : Cond.fieldLink RX1 50 (c_T 1 5).1 (c_T 1 5).2.1 (c_T 1 5).2.2.1 ∈ tG := tGm (i := 264) (by decide +kernel) (by decide +kernel)
set_option maxRecDepth 100000 in
theorem fl_1_9 : Cond.fieldLink RX1 9 (c_T 1 0).1 (c_T 1 0).2.1 (c_T 1 0).2.2.1 ∈ tG := tGm (i := 254) (by decide +kernel) (by decide +kernel)
set_option maxRecDepth 100000 in
theorem fl_2_11 : Cond.fieldLink RX2 11 (c_T 2 0).1 (c_T 2 0).2.1 (c_T 2 0).2.2.1 ∈ tG := tGm (i := 90) (by decide +kernel) (by decide +kernel)
set_option maxRecDepth 100000 in
theorem fl_2_16 : Cond.fieldLink RX2 16 (c_T 2 1).1 (c_T 2 1).2.1 (c_T 2 1).2.2.1 ∈ tG := tGm (i := 93) (by decide +kernel) (by decide +kernel)
set_option maxRecDepth 100000 in
theorem fl_2_23 : Cond.fieldLink RX2 23 (c_T 2 2).1 (c_T 2 2).2.1 (c_T 2 2).2.2.1 ∈ tG := tGm (i := 96) (by decide +kernel) (by decide +kernel)
set_option maxRecDepth 100000 in
theorem fl_2_32 : Cond.fieldLink RX2 32 (c_T 2 3).1 (c_T 2 3).2.1 (c_T 2 3).2.2.1 ∈ tG := tGm (i := 101) (by decide +kernel) (by decide +kernel)
set_option maxRecDepth 100000 in
theorem fl_2_36 : Cond.fieldLink RX2 36 (c_T 2 4).1 (c_T 2 4).2.1 (c_T 2 4).2.2.1 ∈ tG := tGm (i := 103) (by decide +kernel) (by decide +kernel)
set_option maxRecDepth 100000 in
theorem fl_2_39 : Cond.fieldLink RX2 39 (c_T 2 5).1 (c_T 2 5).2.1 (c_T 2 5).2.2.1 ∈ tG := tGm (i := 106) (by decide +kernel) (by decide +kernel)
set_option maxRecDepth 100000 in
theorem fl_2_42 : Cond.fieldLink RX2 42 (c_T 2 6).1 (c_T 2 6).2.1 (c_T 2 6).2.2.1 ∈ tG := tGm (i := 109) (by decide +kernel) (by decide +kernel)
set_option maxRecDepth 100000 in
theorem fl_3_15 : Cond.fieldLink RX3 15 (c_T 3 0).1 (c_T 3 0).2.1 (c_T 3 0).2.2.1 ∈ tG := tGm (i := 183) (by decide +kernel) (by decide +kernel)
set_option maxRecDepth 100000 in
theorem fl_3_19 : Cond.fieldLink RX3 19 (c_T 3 1).1 (c_T 3 1).2.1 (c_T 3 1).2.2.1 ∈ tG := tGm (i := 185) (by decide +kernel) (by decide +kernel)
set_option maxRecDepth 100000 in
theorem fl_3_22 : Cond.fieldLink RX3 22 (c_T 3 2).1 (c_T 3 2).2.1 (c_T 3 2).2.2.1 ∈ tG := tGm (i := 187) (by decide +kernel) (by decide +kernel)
set_option maxRecDepth 100000 in
theorem fl_3_29 : Cond.fieldLink RX3 29 (c_T 3 3).1 (c_T 3 3).2.1 (c_T 3 3).2.2.1 ∈ tG := tGm (i := 189) (by decide +kernel) (by decide +kernel)
set_option maxRecDepth 100000 in
theorem fl_3_32 : Cond.fieldLink RX3 32 (c_T 3 4).1 (c_T 3 4).2.1 (c_T 3 4).2.2.1 ∈ tG := tGm (i := 191) (by decide +kernel) (by decide +kernel)
set_option maxRecDepth 100000 in
theorem fl_3_35 : Cond.fieldLink RX3 35 (c_T 3 5).1 (c_T 3 5).2.1 (c_T 3 5).2.2.1 ∈ tG := tGm (i := 193) (by decide +kernel) (by decide +kernel)
set_option maxRecDepth 100000 in
theorem fl_3_38 : Cond.fieldLink RX3 38 (c_T 3 6).1 (c_T 3 6).2.1 (c_T 3 6).2.2.1 ∈ tG := tGm (i := 196) (by decide +kernel) (by decide +kernel)
set_option maxRecDepth 100000 in
theorem fl_3_41 : Cond.fieldLink RX3 41 (c_T 3 7).1 (c_T 3 7).2.1 (c_T 3 7).2.2.1 ∈ tG := tGm (i := 199) (by decide +kernel) (by decide +kernel)
set_option maxRecDepth 100000 in
theorem fl_3_44 : Cond.fieldLink RX3 44 (c_T 3 8).1 (c_T 3 8).2.1 (c_T 3 8).2.2.1 ∈ tG := tGm (i := 201) (by decide +kernel) (by decide +kernel)
set_option maxRecDepth 100000 in
theorem fl_3_47 : Cond.fieldLink RX3 47 (c_T 3 9).1 (c_T 3 9).2.1 (c_T 3 9).2.2.1 ∈ tG := tGm (i := 203) (by decide +kernel) (by decide +kernel)
set_option maxRecDepth 100000 in
theorem fl_3_50 : Cond.fieldLink RX3 50 (c_T 3 10).1 (c_T 3 10).2.1 (c_T 3 10).2.2.1 ∈ tG := tGm (i := 206) (by decide +kernel) (by decide +kernel)
set_option maxRecDepth 100000 in
theorem fl_4_15 : Cond.fieldLink RX4 15 (c_T 4 1).1 (c_T 4 1).2.1 (c_T 4 1).2.2.1 ∈ tG := tGm (i := 342) (by decide +kernel) (by decide +kernel)
set_option maxRecDepth 100000 in
theorem fl_4_19 : Cond.fieldLink RX4 19 (c_T 4 2).1 (c_T 4 2).2.1 (c_T 4 2).2.2.1 ∈ tG := tGm (i := 344) (by decide +kernel) (by decide +kernel)
set_option maxRecDepth 100000 in
theorem fl_4_23 : Cond.fieldLink RX4 23 (c_T 4 3).1 (c_T 4 3).2.1 (c_T 4 3).2.2.1 ∈ tG := tGm (i := 346) (by decide +kernel) (by decide +kernel)
set_option maxRecDepth 100000 in
theorem fl_4_9 : Cond.fieldLink RX4 9 (c_T 4 0).1 (c_T 4 0).2.1 (c_T 4 0).2.2.1 ∈ tG := tGm (i := 340) (by decide +kernel) (by decide +kernel)
set_option maxRecDepth 100000 in
theorem fl_5_17 : Cond.fieldLink RX5 17 (c_T 5 2).1 (c_T 5 2).2.1 (c_T 5 2).2.2.1 ∈ tG := tGm (i := 137) (by decide +kernel) (by decide +kernel)
set_option maxRecDepth 100000 in
theorem fl_5_20 : Cond.fieldLink RX5 20 (c_T 5 1).1 (c_T 5 1).2.1 (c_T 5 1).2.2.1 ∈ tG := tGm (i := 135) (by decide +kernel) (by decide +kernel)
set_option maxRecDepth 100000 in
theorem fl_5_24 : Cond.fieldLink RX5 24 (c_T 5 4).1 (c_T 5 4).2.1 (c_T 5 4).2.2.1 ∈ tG := tGm (i := 141) (by decide +kernel) (by decide +kernel)
set_option maxRecDepth 100000 in
theorem fl_5_27 : Cond.fieldLink RX5 27 (c_T 5 3).1 (c_T 5 3).2.1 (c_T 5 3).2.2.1 ∈ tG := tGm (i := 139) (by decide +kernel) (by decide +kernel)
set_option maxRecDepth 100000 in
theorem fl_5_9 : Cond.fieldLink RX5 9 (c_T 5 0).1 (c_T 5 0).2.1 (c_T 5 0).2.2.1 ∈ tG := tGm (i := 134) (by decide +kernel) (by decide +kernel)
set_option maxRecDepth 100000 in
theorem fl_6_10 : Cond.fieldLink RX6 10 (c_T 6 0).1 (c_T 6 0).2.1 (c_T 6 0).2.2.1 ∈ tG := tGm (i := 357) (by decide +kernel) (by decide +kernel)
set_option maxRecDepth 100000 in
theorem fl_6_103 : Cond.fieldLink RX6 103 (c_T 2 1).1 (c_T 2 1).2.1 (c_T 2 1).2.2.1 ∈ tG := tGm (i := 95) (by decide +kernel) (by decide +kernel)
set_option maxRecDepth 100000 in
theorem fl_6_118 : Cond.fieldLink RX6 118 (c_T 5 1).1 (c_T 5 1).2.1 (c_T 5 1).2.2.1 ∈ tG := tGm (i := 136) (by decide +kernel) (by decide +kernel)
set_option maxRecDepth 100000 in
theorem fl_6_128 : Cond.fieldLink RX6 128 (c_T 5 3).1 (c_T 5 3).2.1 (c_T 5 3).2.2.1 ∈ tG := tGm (i := 140) (by decide +kernel) (by decide +kernel)
set_option maxRecDepth 100000 in
theorem fl_6_131 : Cond.fieldLink RX6 131 (c_T 5 2).1 (c_T 5 2).2.1 (c_T 5 2).2.2.1 ∈ tG := tGm (i := 138) (by decide +kernel) (by decide +kernel)
set_option maxRecDepth 100000 in
theorem fl_6_139 : Cond.fieldLink RX6 139 (c_T 0 0).1 (c_T 0 0).2.1 (c_T 0 0).2.2.1 ∈ tG := tGm (i := 280) (by decide +kernel) (by decide +kernel)
set_option maxRecDepth 100000 in
theorem fl_6_143 : Cond.fieldLink RX6 143 (c_T 3 6).1 (c_T 3 6).2.1 (c_T 3 6).2.2.1 ∈ tG := tGm (i := 197) (by decide +kernel) (by decide +kernel)
set_option maxRecDepth 100000 in
theorem fl_6_151 : Cond.fieldLink RX6 151 (c_T 3 5).1 (c_T 3 5).2.1 (c_T 3 5).2.2.1 ∈ tG := tGm (i := 194) (by decide +kernel) (by decide +kernel)
set_option maxRecDepth 100000 in
theorem fl_6_153 : Cond.fieldLink RX6 153 (c_T 3 9).1 (c_T 3 9).2.1 (c_T 3 9).2.2.1 ∈ tG := tGm (i := 204) (by decide +kernel) (by decide +kernel)
set_option maxRecDepth 100000 in
theorem fl_6_159 : Cond.fieldLink RX6 159 (c_T 3 10).1 (c_T 3 10).2.1 (c_T 3 10).2.2.1 ∈ tG := tGm (i := 207) (by decide +kernel) (by decide +kernel)
set_option maxRecDepth 100000 in
theorem fl_6_16 : Cond.fieldLink RX6 16 (c_T 6 1).1 (c_T 6 1).2.1 (c_T 6 1).2.2.1 ∈ tG := tGm (i := 358) (by decide +kernel) (by decide +kernel)
set_option maxRecDepth 100000 in
theorem fl_6_177 : Cond.fieldLink RX6 177 (c_T 0 1).1 (c_T 0 1).2.1 (c_T 0 1).2.2.1 ∈ tG := tGm (i := 282) (by decide +kernel) (by decide +kernel)
set_option maxRecDepth 100000 in
theorem fl_6_187 : Cond.fieldLink RX6 187 (c_T 0 12).1 (c_T 0 12).2.1 (c_T 0 12).2.2.1 ∈ tG := tGm (i := 295) (by decide +kernel) (by decide +kernel)
set_option maxRecDepth 100000 in
theorem fl_6_190 : Cond.fieldLink RX6 190 (c_T 0 13).1 (c_T 0 13).2.1 (c_T 0 13).2.2.1 ∈ tG := tGm (i := 297) (by decide +kernel) (by decide +kernel)
set_option maxRecDepth 100000 in
theorem fl_6_193 : Cond.fieldLink RX6 193 (c_T 0 14).1 (c_T 0 14).2.1 (c_T 0 14).2.2.1 ∈ tG := tGm (i := 299) (by decide +kernel) (by decide +kernel)
set_option maxRecDepth 100000 in
theorem fl_6_196 : Cond.fieldLink RX6 196 (c_T 0 15).1 (c_T 0 15).2.1 (c_T 0 15).2.2.1 ∈ tG := tGm (i := 301) (by decide +kernel) (by decide +kernel)
set_option maxRecDepth 100000 in
theorem fl_6_215 : Cond.fieldLink RX6 215 (c_T 6 9).1 (c_T 6 9).2.1 (c_T 6 9).2.2.1 ∈ tG := tGm (i := 366) (by decide +kernel) (by decide +kernel)
set_option maxRecDepth 100000 in
theorem fl_6_22 : Cond.fieldLink RX6 22 (c_T 6 3).1 (c_T 6 3).2.1 (c_T 6 3).2.2.1 ∈ tG := tGm (i := 360) (by decide +kernel) (by decide +kernel)
set_option maxRecDepth 100000 in
theorem fl_6_221 : Cond.fieldLink RX6 221 (c_T 6 10).1 (c_T 6 10).2.1 (c_T 6 10).2.2.1 ∈ tG := tGm (i := 367) (by decide +kernel) (by decide +kernel)
set_option maxRecDepth 100000 in
theorem fl_6_224 : Cond.fieldLink RX6 224 (c_T 6 11).1 (c_T 6 11).2.1 (c_T 6 11).2.2.1 ∈ tG := tGm (i := 368) (by decide +kernel) (by decide +kernel)
set_option maxRecDepth 100000 in
theorem fl_6_227 : Cond.fieldLink RX6 227 (c_T 6 12).1 (c_T 6 12).2.1 (c_T 6 12).2.2.1 ∈ tG := tGm (i := 369) (by decide +kernel) (by decide +kernel)
set_option maxRecDepth 100000 in
theorem fl_6_252 : Cond.fieldLink RX6 252 (c_T 6 2).1 (c_T 6 2).2.1 (c_T 6 2).2.2.1 ∈ tG := tGm (i := 359) (by decide +kernel) (by decide +kernel)
set_option maxRecDepth 100000 in
theorem fl_6_264 : Cond.fieldLink RX6 264 (c_T 4 1).1 (c_T 4 1).2.1 (c_T 4 1).2.2.1 ∈ tG := tGm (i := 343) (by decide +kernel) (by decide +kernel)
set_option maxRecDepth 100000 in
theorem fl_6_267 : Cond.fieldLink RX6 267 (c_T 4 3).1 (c_T 4 3).2.1 (c_T 4 3).2.2.1 ∈ tG := tGm (i := 347) (by decide +kernel) (by decide +kernel)
set_option maxRecDepth 100000 in
theorem fl_6_270 : Cond.fieldLink RX6 270 (c_T 4 2).1 (c_T 4 2).2.1 (c_T 4 2).2.2.1 ∈ tG := tGm (i := 345) (by decide +kernel) (by decide +kernel)
set_option maxRecDepth 100000 in
theorem fl_6_277 : Cond.fieldLink RX6 277 (c_T 4 0).1 (c_T 4 0).2.1 (c_T 4 0).2.2.1 ∈ tG := tGm (i := 341) (by decide +kernel) (by decide +kernel)
set_option maxRecDepth 100000 in
theorem fl_6_28 : Cond.fieldLink RX6 28 (c_T 6 4).1 (c_T 6 4).2.1 (c_T 6 4).2.2.1 ∈ tG := tGm (i := 361) (by decide +kernel) (by decide +kernel)
set_option maxRecDepth 100000 in
theorem fl_6_291 : Cond.fieldLink RX6 291 (c_T 6 8).1 (c_T 6 8).2.1 (c_T 6 8).2.2.1 ∈ tG := tGm (i := 365) (by decide +kernel) (by decide +kernel)
set_option maxRecDepth 100000 in
theorem fl_6_294 : Cond.fieldLink RX6 294 (c_T 0 2).1 (c_T 0 2).2.1 (c_T 0 2).2.2.1 ∈ tG := tGm (i := 284) (by decide +kernel) (by decide +kernel)
set_option maxRecDepth 100000 in
theorem fl_6_35 : Cond.fieldLink RX6 35 (c_T 6 5).1 (c_T 6 5).2.1 (c_T 6 5).2.2.1 ∈ tG := tGm (i := 362) (by decide +kernel) (by decide +kernel)
set_option maxRecDepth 100000 in
theorem fl_6_39 : Cond.fieldLink RX6 39 (c_T 6 6).1 (c_T 6 6).2.1 (c_T 6 6).2.2.1 ∈ tG := tGm (i := 363) (by decide +kernel) (by decide +kernel)
set_option maxRecDepth 100000 in
theorem fl_6_42 : Cond.fieldLink RX6 42 (c_T 6 7).1 (c_T 6 7).2.1 (c_T 6 7).2.2.1 ∈ tG := tGm (i := 364) (by decide +kernel) (by decide +kernel)
set_option maxRecDepth 100000 in
theorem fl_6_57 : Cond.fieldLink RX6 57 (c_T 2 3).1 (c_T 2 3).2.1 (c_T 2 3).2.2.1 ∈ tG := tGm (i := 100) (by decide +kernel) (by decide +kernel)
set_option maxRecDepth 100000 in
theorem fl_6_61 : Cond.fieldLink RX6 61 (c_T 2 0).1 (c_T 2 0).2.1 (c_T 2 0).2.2.1 ∈ tG := tGm (i := 91) (by decide +kernel) (by decide +kernel)
set_option maxRecDepth 100000 in
theorem fl_6_78 : Cond.fieldLink RX6 78 (c_T 2 2).1 (c_T 2 2).2.1 (c_T 2 2).2.2.1 ∈ tG := tGm (i := 98) (by decide +kernel) (by decide +kernel)
set_option maxRecDepth 100000 in
theorem fl_6_84 : Cond.fieldLink RX6 84 (c_T 2 5).1 (c_T 2 5).2.1 (c_T 2 5).2.2.1 ∈ tG := tGm (i := 107) (by decide +kernel) (by decide +kernel)
set_option maxRecDepth 100000 in
theorem fl_6_87 : Cond.fieldLink RX6 87 (c_T 2 6).1 (c_T 2 6).2.1 (c_T 2 6).2.2.1 ∈ tG := tGm (i := 110) (by decide +kernel) (by decide +kernel)
set_option maxRecDepth 100000 in
theorem fl_6_93 : Cond.fieldLink RX6 93 (c_T 2 4).1 (c_T 2 4).2.1 (c_T 2 4).2.2.1 ∈ tG := tGm (i := 104) (by decide +kernel) (by decide +kernel)
set_option maxRecDepth 100000 in
theorem fl_7_105 : Cond.fieldLink RX7 105 (c_T 7 5).1 (c_T 7 5).2.1 (c_T 7 5).2.2.1 ∈ tG := tGm (i := 895) (by decide +kernel) (by decide +kernel)
set_option maxRecDepth 100000 in
theorem fl_7_13 : Cond.fieldLink RX7 13 (c_T 7 2).1 (c_T 7 2).2.1 (c_T 7 2).2.2.1 ∈ tG := tGm (i := 892) (by decide +kernel) (by decide +kernel)
set_option maxRecDepth 100000 in
theorem fl_7_133 : Cond.fieldLink RX7 133 (c_T 7 3).1 (c_T 7 3).2.1 (c_T 7 3).2.2.1 ∈ tG := tGm (i := 893) (by decide +kernel) (by decide +kernel)
set_option maxRecDepth 100000 in
theorem fl_7_136 : Cond.fieldLink RX7 136 (c_T 7 4).1 (c_T 7 4).2.1 (c_T 7 4).2.2.1 ∈ tG := tGm (i := 894) (by decide +kernel) (by decide +kernel)
set_option maxRecDepth 100000 in
theorem fl_7_16 : Cond.fieldLink RX7 16 (c_T 7 6).1 (c_T 7 6).2.1 (c_T 7 6).2.2.1 ∈ tG := tGm (i := 896) (by decide +kernel) (by decide +kernel)
set_option maxRecDepth 100000 in
theorem fl_7_160 : Cond.fieldLink RX7 160 (c_T 7 8).1 (c_T 7 8).2.1 (c_T 7 8).2.2.1 ∈ tG := tGm (i := 898) (by decide +kernel) (by decide +kernel)
set_option maxRecDepth 100000 in
theorem fl_7_163 : Cond.fieldLink RX7 163 (c_T 7 9).1 (c_T 7 9).2.1 (c_T 7 9).2.2.1 ∈ tG := tGm (i := 899) (by decide +kernel) (by decide +kernel)
set_option maxRecDepth 100000 in
theorem fl_7_166 : Cond.fieldLink RX7 166 (c_T 7 10).1 (c_T 7 10).2.1 (c_T 7 10).2.2.1 ∈ tG := tGm (i := 900) (by decide +kernel) (by decide +kernel)
set_option maxRecDepth 100000 in
theorem fl_7_185 : Cond.fieldLink RX7 185 (c_T 7 15).1 (c_T 7 15).2.1 (c_T 7 15).2.2.1 ∈ tG := tGm (i := 905) (by decide +kernel) (by decide +kernel)
set_option maxRecDepth 100000 in
theorem fl_7_188 : Cond.fieldLink RX7 188 (c_T 7 16).1 (c_T 7 16).2.1 (c_T 7 16).2.2.1 ∈ tG := tGm (i := 906) (by decide +kernel) (by decide +kernel)
set_option maxRecDepth 100000 in
theorem fl_7_19 : Cond.fieldLink RX7 19 (c_T 7 7).1 (c_T 7 7).2.1 (c_T 7 7).2.2.1 ∈ tG := tGm (i := 897) (by decide +kernel) (by decide +kernel)
set_option maxRecDepth 100000 in
theorem fl_7_191 : Cond.fieldLink RX7 191 (c_T 7 17).1 (c_T 7 17).2.1 (c_T 7 17).2.2.1 ∈ tG := tGm (i := 907) (by decide +kernel) (by decide +kernel)
set_option maxRecDepth 100000 in
theorem fl_7_197 : Cond.fieldLink RX7 197 (c_T 7 32).1 (c_T 7 32).2.1 (c_T 7 32).2.2.1 ∈ tG := tGm (i := 922) (by decide +kernel) (by decide +kernel)
set_option maxRecDepth 100000 in
theorem fl_7_210 : Cond.fieldLink RX7 210 (c_T 7 34).1 (c_T 7 34).2.1 (c_T 7 34).2.2.1 ∈ tG := tGm (i := 924) (by decide +kernel) (by decide +kernel)
set_option maxRecDepth 100000 in
theorem fl_7_213 : Cond.fieldLink RX7 213 (c_T 7 33).1 (c_T 7 33).2.1 (c_T 7 33).2.2.1 ∈ tG := tGm (i := 923) (by decide +kernel) (by decide +kernel)
set_option maxRecDepth 100000 in
theorem fl_7_216 : Cond.fieldLink RX7 216 (c_T 7 31).1 (c_T 7 31).2.1 (c_T 7 31).2.2.1 ∈ tG := tGm (i := 921) (by decide +kernel) (by decide +kernel)
set_option maxRecDepth 100000 in
theorem fl_7_22 : Cond.fieldLink RX7 22 (c_T 7 11).1 (c_T 7 11).2.1 (c_T 7 11).2.2.1 ∈ tG := tGm (i := 901) (by decide +kernel) (by decide +kernel)
set_option maxRecDepth 100000 in
theorem fl_7_25 : Cond.fieldLink RX7 25 (c_T 7 12).1 (c_T 7 12).2.1 (c_T 7 12).2.2.1 ∈ tG := tGm (i := 902) (by decide +kernel) (by decide +kernel)
set_option maxRecDepth 100000 in
theorem fl_7_28 : Cond.fieldLink RX7 28 (c_T 7 13).1 (c_T 7 13).2.1 (c_T 7 13).2.2.1 ∈ tG := tGm (i := 903) (by decide +kernel) (by decide +kernel)
set_option maxRecDepth 100000 in
theorem fl_7_287 : Cond.fieldLink RX7 287 (c_T 7 39).1 (c_T 7 39).2.1 (c_T 7 39).2.2.1 ∈ tG := tGm (i := 929) (by decide +kernel) (by decide +kernel)
set_option maxRecDepth 100000 in
theorem fl_7_31 : Cond.fieldLink RX7 31 (c_T 7 14).1 (c_T 7 14).2.1 (c_T 7 14).2.2.1 ∈ tG := tGm (i := 904) (by decide +kernel) (by decide +kernel)
set_option maxRecDepth 100000 in
theorem fl_7_34 : Cond.fieldLink RX7 34 (c_T 7 18).1 (c_T 7 18).2.1 (c_T 7 18).2.2.1 ∈ tG := tGm (i := 908) (by decide +kernel) (by decide +kernel)
set_option maxRecDepth 100000 in
theorem fl_7_37 : Cond.fieldLink RX7 37 (c_T 7 19).1 (c_T 7 19).2.1 (c_T 7 19).2.2.1 ∈ tG := tGm (i := 909) (by decide +kernel) (by decide +kernel)
set_option maxRecDepth 100000 in
theorem fl_7_40 : Cond.fieldLink RX7 40 (c_T 7 20).1 (c_T 7 20).2.1 (c_T 7 20).2.2.1 ∈ tG := tGm (i := 910) (by decide +kernel) (by decide +kernel)
set_option maxRecDepth 100000 in
theorem fl_7_43 : Cond.fieldLink RX7 43 (c_T 7 21).1 (c_T 7 21).2.1 (c_T 7 21).2.2.1 ∈ tG := tGm (i := 911) (by decide +kernel) (by decide +kernel)
set_option maxRecDepth 100000 in
theorem fl_7_46 : Cond.fieldLink RX7 46 (c_T 7 22).1 (c_T 7 22).2.1 (c_T 7 22).2.2.1 ∈ tG := tGm (i := 912) (by decide +kernel) (by decide +kernel)
set_option maxRecDepth 100000 in
theorem fl_7_49 : Cond.fieldLink RX7 49 (c_T 7 23).1 (c_T 7 23).2.1 (c_T 7 23).2.2.1 ∈ tG := tGm (i := 913) (by decide +kernel) (by decide +kernel)
set_option maxRecDepth 100000 in
theorem fl_7_52 : Cond.fieldLink RX7 52 (c_T 7 24).1 (c_T 7 24).2.1 (c_T 7 24).2.2.1 ∈ tG := tGm (i := 914) (by decide +kernel) (by decide +kernel)
set_option maxRecDepth 100000 in
theorem fl_7_55 : Cond.fieldLink RX7 55 (c_T 7 25).1 (c_T 7 25).2.1 (c_T 7 25).2.2.1 ∈ tG := tGm (i := 915) (by decide +kernel) (by decide +kernel)
set_option maxRecDepth 100000 in
theorem fl_7_58 : Cond.fieldLink RX7 58 (c_T 7 26).1 (c_T 7 26).2.1 (c_T 7 26).2.2.1 ∈ tG := tGm (i := 916) (by decide +kernel) (by decide +kernel)
set_option maxRecDepth 100000 in
theorem fl_7_61 : Cond.fieldLink RX7 61 (c_T 7 27).1 (c_T 7 27).2.1 (c_T 7 27).2.2.1 ∈ tG := tGm (i := 917) (by decide +kernel) (by decide +kernel)
set_option maxRecDepth 100000 in
theorem fl_7_64 : Cond.fieldLink RX7 64 (c_T 7 28).1 (c_T 7 28).2.1 (c_T 7 28).2.2.1 ∈ tG := tGm (i := 918) (by decide +kernel) (by decide +kernel)
set_option maxRecDepth 100000 in
theorem fl_7_67 : Cond.fieldLink RX7 67 (c_T 7 29).1 (c_T 7 29).2.1 (c_T 7 29).2.2.1 ∈ tG := tGm (i := 919) (by decide +kernel) (by decide +kernel)
set_option maxRecDepth 100000 in
theorem fl_7_7 : Cond.fieldLink RX7 7 (c_T 7 0).1 (c_T 7 0).2.1 (c_T 7 0).2.2.1 ∈ tG := tGm (i := 890) (by decide +kernel) (by decide +kernel)
set_option maxRecDepth 100000 in
theorem fl_7_70 : Cond.fieldLink RX7 70 (c_T 7 30).1 (c_T 7 30).2.1 (c_T 7 30).2.2.1 ∈ tG := tGm (i := 920) (by decide +kernel) (by decide +kernel)
set_option maxRecDepth 100000 in
theorem fl_7_73 : Cond.fieldLink RX7 73 (c_T 7 35).1 (c_T 7 35).2.1 (c_T 7 35).2.2.1 ∈ tG := tGm (i := 925) (by decide +kernel) (by decide +kernel)
set_option maxRecDepth 100000 in
theorem fl_7_76 : Cond.fieldLink RX7 76 (c_T 7 36).1 (c_T 7 36).2.1 (c_T 7 36).2.2.1 ∈ tG := tGm (i := 926) (by decide +kernel) (by decide +kernel)
set_option maxRecDepth 100000 in
theorem fl_7_79 : Cond.fieldLink RX7 79 (c_T 7 37).1 (c_T 7 37).2.1 (c_T 7 37).2.2.1 ∈ tG := tGm (i := 927) (by decide +kernel) (by decide +kernel)
set_option maxRecDepth 100000 in
theorem fl_7_82 : Cond.fieldLink RX7 82 (c_T 7 38).1 (c_T 7 38).2.1 (c_T 7 38).2.2.1 ∈ tG := tGm (i := 928) (by decide +kernel) (by decide +kernel)
set_option maxRecDepth 100000 in
theorem fl_7_85 : Cond.fieldLink RX7 85 (c_T 7 40).1 (c_T 7 40).2.1 (c_T 7 40).2.2.1 ∈ tG := tGm (i := 930) (by decide +kernel) (by decide +kernel)
set_option maxRecDepth 100000 in
theorem fl_7_88 : Cond.fieldLink RX7 88 (c_T 7 41).1 (c_T 7 41).2.1 (c_T 7 41).2.2.1 ∈ tG := tGm (i := 931) (by decide +kernel) (by decide +kernel)
set_option maxRecDepth 100000 in
theorem fl_7_91 : Cond.fieldLink RX7 91 (c_T 7 42).1 (c_T 7 42).2.1 (c_T 7 42).2.2.1 ∈ tG := tGm (i := 932) (by decide +kernel) (by decide +kernel)
set_option maxRecDepth 100000 in
theorem fl_7_94 : Cond.fieldLink RX7 94 (c_T 7 43).1 (c_T 7 43).2.1 (c_T 7 43).2.2.1 ∈ tG := tGm (i := 933) (by decide +kernel) (by decide +kernel)
set_option maxRecDepth 100000 in
theorem fl_7_97 : Cond.fieldLink RX7 97 (c_T 7 1).1 (c_T 7 1).2.1 (c_T 7 1).2.2.1 ∈ tG := tGm (i := 891) (by decide +kernel) (by decide +kernel)
set_option maxRecDepth 100000 in
theorem mf_0_47 : Cond.methodLink RX0 47 yJ7_fill_53178 ∈ tG ∨ ∃ h, Cond.methodLinkNest RX0 47 yJ7_fill_53178 h ∈ nestW := Or.inl (tGm (i := 603) (by decide +kernel) (by decide +kernel))
set_option maxRecDepth 100000 in
theorem mf_1_53 : Cond.methodLink RX1 53 yJ7_fill_53178 ∈ tG ∨ ∃ h, Cond.methodLinkNest RX1 53 yJ7_fill_53178 h ∈ nestW := Or.inl (tGm (i := 251) (by decide +kernel) (by decide +kernel))
set_option maxRecDepth 100000 in
theorem mf_4_26 : Cond.methodLink RX4 26 yJ7_fill_53178 ∈ tG ∨ ∃ h, Cond.methodLinkNest RX4 26 yJ7_fill_53178 h ∈ nestW := Or.inl (tGm (i := 870) (by decide +kernel) (by decide +kernel))
set_option maxRecDepth 100000 in
theorem ml_0_104 : Cond.methodLink RX0 104 yX3_begin ∈ tG := tGm (i := 609) (by decide +kernel) (by decide +kernel)
set_option maxRecDepth 100000 in
theorem ml_0_105 : Cond.methodLink RX0 105 yX0_lineUp ∈ tG := tGm (i := 610) (by decide +kernel) (by decide +kernel)
set_option maxRecDepth 100000 in
theorem ml_0_118 : Cond.methodLink RX0 118 yX1_copyFrom ∈ tG := tGm (i := 787) (by decide +kernel) (by decide +kernel)
set_option maxRecDepth 100000 in
theorem ml_0_122 : Cond.methodLink RX0 122 yX3_copyFrom ∈ tG := tGm (i := 791) (by decide +kernel) (by decide +kernel)
set_option maxRecDepth 100000 in
theorem ml_0_125 : Cond.methodLink RX0 125 yX0_load ∈ tG := tGm (i := 769) (by decide +kernel) (by decide +kernel)
set_option maxRecDepth 100000 in
theorem ml_0_129 : Cond.methodLink RX0 129 yX6_wayOf ∈ tG ∨ ∃ h, Cond.methodLinkNest RX0 129 yX6_wayOf h ∈ nestW := Or.inr ⟨RX6, nWm (i := 630) (by decide +kernel) (by decide +kernel)⟩
set_option maxRecDepth 100000 in
theorem ml_0_139 : Cond.methodLink RX0 139 yX6_isBetween ∈ tG ∨ ∃ h, Cond.methodLinkNest RX0 139 yX6_isBetween h ∈ nestW := Or.inr ⟨RX6, nWm (i := 836) (by decide +kernel) (by decide +kernel)⟩
set_option maxRecDepth 100000 in
theorem ml_0_146 : Cond.methodLink RX0 146 yX0_passTick ∈ tG := tGm (i := 618) (by decide +kernel) (by decide +kernel)
set_option maxRecDepth 100000 in
theorem ml_0_149 : Cond.methodLink RX0 149 yX0_arrive ∈ tG := tGm (i := 622) (by decide +kernel) (by decide +kernel)
set_option maxRecDepth 100000 in
theorem ml_0_152 : Cond.methodLink RX0 152 yX0_turn ∈ tG := tGm (i := 626) (by decide +kernel) (by decide +kernel)
set_option maxRecDepth 100000 in
theorem ml_0_155 : Cond.methodLink RX0 155 yX1_moves ∈ tG := tGm (i := 654) (by decide +kernel) (by decide +kernel)
set_option maxRecDepth 100000 in
theorem ml_0_161 : Cond.methodLink RX0 161 yX0_advance ∈ tG := tGm (i := 658) (by decide +kernel) (by decide +kernel)
set_option maxRecDepth 100000 in
theorem ml_0_165 : Cond.methodLink RX0 165 yX0_leave ∈ tG := tGm (i := 685) (by decide +kernel) (by decide +kernel)
set_option maxRecDepth 100000 in
theorem ml_0_168 : Cond.methodLink RX0 168 yX0_board ∈ tG := tGm (i := 693) (by decide +kernel) (by decide +kernel)
set_option maxRecDepth 100000 in
theorem ml_0_171 : Cond.methodLink RX0 171 yX0_weigh ∈ tG := tGm (i := 709) (by decide +kernel) (by decide +kernel)
set_option maxRecDepth 100000 in
theorem ml_0_177 : Cond.methodLink RX0 177 yX0_letAllThrough ∈ tG := tGm (i := 633) (by decide +kernel) (by decide +kernel)
set_option maxRecDepth 100000 in
theorem ml_0_180 : Cond.methodLink RX0 180 yX1_turnRound ∈ tG := tGm (i := 642) (by decide +kernel) (by decide +kernel)
set_option maxRecDepth 100000 in
theorem ml_0_185 : Cond.methodLink RX0 185 yX3_goThrough ∈ tG := tGm (i := 637) (by decide +kernel) (by decide +kernel)
set_option maxRecDepth 100000 in
theorem ml_0_188 : Cond.methodLink RX0 188 yX1_empty ∈ tG := tGm (i := 641) (by decide +kernel) (by decide +kernel)
set_option maxRecDepth 100000 in
theorem ml_0_191 : Cond.methodLink RX0 191 yX1_endFloor ∈ tG := tGm (i := 662) (by decide +kernel) (by decide +kernel)
set_option maxRecDepth 100000 in
theorem ml_0_195 : Cond.methodLink RX0 195 yX1_countOnLastStep ∈ tG := tGm (i := 666) (by decide +kernel) (by decide +kernel)
set_option maxRecDepth 100000 in
theorem ml_0_198 : Cond.methodLink RX0 198 yX0_land ∈ tG := tGm (i := 670) (by decide +kernel) (by decide +kernel)
set_option maxRecDepth 100000 in
theorem ml_0_202 : Cond.methodLink RX0 202 yX1_goOneStep ∈ tG := tGm (i := 675) (by decide +kernel) (by decide +kernel)
set_option maxRecDepth 100000 in
theorem ml_0_205 : Cond.methodLink RX0 205 yX0_walk ∈ tG := tGm (i := 680) (by decide +kernel) (by decide +kernel)
set_option maxRecDepth 100000 in
theorem ml_0_211 : Cond.methodLink RX0 211 yX1_who ∈ tG := tGm (i := 674) (by decide +kernel) (by decide +kernel)
set_option maxRecDepth 100000 in
theorem ml_0_226 : Cond.methodLink RX0 226 yX1_put ∈ tG := tGm (i := 684) (by decide +kernel) (by decide +kernel)
set_option maxRecDepth 100000 in
theorem ml_0_229 : Cond.methodLink RX0 229 yX0_firstOnLanding ∈ tG := tGm (i := 689) (by decide +kernel) (by decide +kernel)
set_option maxRecDepth 100000 in
theorem ml_0_233 : Cond.methodLink RX0 233 yX0_firstToBoard ∈ tG := tGm (i := 697) (by decide +kernel) (by decide +kernel)
set_option maxRecDepth 100000 in
theorem ml_0_240 : Cond.methodLink RX0 240 yX1_startFloor ∈ tG := tGm (i := 701) (by decide +kernel) (by decide +kernel)
set_option maxRecDepth 100000 in
theorem ml_0_246 : Cond.methodLink RX0 246 yX0_mayBoard ∈ tG := tGm (i := 705) (by decide +kernel) (by decide +kernel)
set_option maxRecDepth 100000 in
theorem ml_0_261 : Cond.methodLink RX0 261 yX0_letWalkersFall ∈ tG := tGm (i := 714) (by decide +kernel) (by decide +kernel)
set_option maxRecDepth 100000 in
theorem ml_0_89 : Cond.methodLink RX0 89 yX0_turnAt ∈ tG := tGm (i := 604) (by decide +kernel) (by decide +kernel)
set_option maxRecDepth 100000 in
theorem ml_0_97 : Cond.methodLink RX0 97 yX1_begin ∈ tG := tGm (i := 608) (by decide +kernel) (by decide +kernel)
set_option maxRecDepth 100000 in
theorem ml_1_41 : Cond.methodLink RX1 41 yX1_empty ∈ tG := tGm (i := 247) (by decide +kernel) (by decide +kernel)
set_option maxRecDepth 100000 in
theorem ml_1_59 : Cond.methodLink RX1 59 yX1_who ∈ tG := tGm (i := 646) (by decide +kernel) (by decide +kernel)
set_option maxRecDepth 100000 in
theorem ml_1_62 : Cond.methodLink RX1 62 yX1_put ∈ tG := tGm (i := 650) (by decide +kernel) (by decide +kernel)
set_option maxRecDepth 100000 in
theorem ml_3_25 : Cond.methodLink RX3 25 yX6_weightOf ∈ tG ∨ ∃ h, Cond.methodLinkNest RX3 25 yX6_weightOf h ∈ nestW := Or.inr ⟨RX6, nWm (i := 175) (by decide +kernel) (by decide +kernel)⟩
set_option maxRecDepth 100000 in
theorem ml_4_32 : Cond.methodLink RX4 32 yX6_isBetween ∈ tG ∨ ∃ h, Cond.methodLinkNest RX4 32 yX6_isBetween h ∈ nestW := Or.inr ⟨RX6, nWm (i := 861) (by decide +kernel) (by decide +kernel)⟩
set_option maxRecDepth 100000 in
theorem ml_5_30 : Cond.methodLink RX5 30 yX5_parsePerson ∈ tG := tGm (i := 478) (by decide +kernel) (by decide +kernel)
set_option maxRecDepth 100000 in
theorem ml_5_34 : Cond.methodLink RX5 34 yX5_nextByte ∈ tG := tGm (i := 482) (by decide +kernel) (by decide +kernel)
set_option maxRecDepth 100000 in
theorem ml_5_38 : Cond.methodLink RX5 38 yX5_parseNumber ∈ tG := tGm (i := 486) (by decide +kernel) (by decide +kernel)
set_option maxRecDepth 100000 in
theorem ml_5_41 : Cond.methodLink RX5 41 yX6_isBetween ∈ tG ∨ ∃ h, Cond.methodLinkNest RX5 41 yX6_isBetween h ∈ nestW := Or.inr ⟨RX6, nWm (i := 490) (by decide +kernel) (by decide +kernel)⟩
set_option maxRecDepth 100000 in
theorem ml_5_47 : Cond.methodLink RX5 47 yX5_nextLetter ∈ tG := tGm (i := 494) (by decide +kernel) (by decide +kernel)
set_option maxRecDepth 100000 in
theorem ml_6_100 : Cond.methodLink RX6 100 yX6_isPerson ∈ tG := tGm (i := 445) (by decide +kernel) (by decide +kernel)
set_option maxRecDepth 100000 in
theorem ml_6_106 : Cond.methodLink RX6 106 yX6_weightOf ∈ tG ∨ ∃ h, Cond.methodLinkNest RX6 106 yX6_weightOf h ∈ nestW := Or.inl (tGm (i := 449) (by decide +kernel) (by decide +kernel))
set_option maxRecDepth 100000 in
theorem ml_6_110 : Cond.methodLink RX6 110 yX2_removePerson ∈ tG := tGm (i := 454) (by decide +kernel) (by decide +kernel)
set_option maxRecDepth 100000 in
theorem ml_6_114 : Cond.methodLink RX6 114 yX6_byteOf ∈ tG ∨ ∃ h, Cond.methodLinkNest RX6 114 yX6_byteOf h ∈ nestW := Or.inl (tGm (i := 462) (by decide +kernel) (by decide +kernel))
set_option maxRecDepth 100000 in
theorem ml_6_121 : Cond.methodLink RX6 121 yX5_add ∈ tG := tGm (i := 466) (by decide +kernel) (by decide +kernel)
set_option maxRecDepth 100000 in
theorem ml_6_124 : Cond.methodLink RX6 124 yX5_parse ∈ tG := tGm (i := 474) (by decide +kernel) (by decide +kernel)
set_option maxRecDepth 100000 in
theorem ml_6_132 : Cond.methodLink RX6 132 yX2_countUp ∈ tG := tGm (i := 586) (by decide +kernel) (by decide +kernel)
set_option maxRecDepth 100000 in
theorem ml_6_135 : Cond.methodLink RX6 135 yX6_toldDay ∈ tG := tGm (i := 594) (by decide +kernel) (by decide +kernel)
set_option maxRecDepth 100000 in
theorem ml_6_148 : Cond.methodLink RX6 148 yX6_orNone ∈ tG ∨ ∃ h, Cond.methodLinkNest RX6 148 yX6_orNone h ∈ nestW := Or.inl (tGm (i := 718) (by decide +kernel) (by decide +kernel))
set_option maxRecDepth 100000 in
theorem ml_6_156 : Cond.methodLink RX6 156 yX3_countWait ∈ tG := tGm (i := 721) (by decide +kernel) (by decide +kernel)
set_option maxRecDepth 100000 in
theorem ml_6_163 : Cond.methodLink RX6 163 yX0_load ∈ tG := tGm (i := 598) (by decide +kernel) (by decide +kernel)
set_option maxRecDepth 100000 in
theorem ml_6_167 : Cond.methodLink RX6 167 yX0_run ∈ tG := tGm (i := 614) (by decide +kernel) (by decide +kernel)
set_option maxRecDepth 100000 in
theorem ml_6_171 : Cond.methodLink RX6 171 yX0_setOf ∈ tG := tGm (i := 729) (by decide +kernel) (by decide +kernel)
set_option maxRecDepth 100000 in
theorem ml_6_174 : Cond.methodLink RX6 174 yX0_tripDigits ∈ tG := tGm (i := 733) (by decide +kernel) (by decide +kernel)
set_option maxRecDepth 100000 in
theorem ml_6_181 : Cond.methodLink RX6 181 yX1_who ∈ tG := tGm (i := 743) (by decide +kernel) (by decide +kernel)
set_option maxRecDepth 100000 in
theorem ml_6_199 : Cond.methodLink RX6 199 yX0_setOfFallen ∈ tG := tGm (i := 748) (by decide +kernel) (by decide +kernel)
set_option maxRecDepth 100000 in
theorem ml_6_202 : Cond.methodLink RX6 202 yX0_countThrough ∈ tG := tGm (i := 752) (by decide +kernel) (by decide +kernel)
set_option maxRecDepth 100000 in
theorem ml_6_205 : Cond.methodLink RX6 205 yX0_lastThrough ∈ tG := tGm (i := 756) (by decide +kernel) (by decide +kernel)
set_option maxRecDepth 100000 in
theorem ml_6_209 : Cond.methodLink RX6 209 yX0_loadAllDay ∈ tG := tGm (i := 765) (by decide +kernel) (by decide +kernel)
set_option maxRecDepth 100000 in
theorem ml_6_212 : Cond.methodLink RX6 212 yX0_runWaits ∈ tG := tGm (i := 770) (by decide +kernel) (by decide +kernel)
set_option maxRecDepth 100000 in
theorem ml_6_218 : Cond.methodLink RX6 218 yX6_seekChange ∈ tG := tGm (i := 778) (by decide +kernel) (by decide +kernel)
set_option maxRecDepth 100000 in
theorem ml_6_230 : Cond.methodLink RX6 230 yX0_setPaces ∈ tG := tGm (i := 800) (by decide +kernel) (by decide +kernel)
set_option maxRecDepth 100000 in
theorem ml_6_234 : Cond.methodLink RX6 234 yX6_waitsByRule ∈ tG := tGm (i := 813) (by decide +kernel) (by decide +kernel)
set_option maxRecDepth 100000 in
theorem ml_6_237 : Cond.methodLink RX6 237 yX6_refuse ∈ tG := tGm (i := 821) (by decide +kernel) (by decide +kernel)
set_option maxRecDepth 100000 in
theorem ml_6_241 : Cond.methodLink RX6 241 yX0_keepStanding ∈ tG := tGm (i := 832) (by decide +kernel) (by decide +kernel)
set_option maxRecDepth 100000 in
theorem ml_6_244 : Cond.methodLink RX6 244 yX6_isFilm ∈ tG ∨ ∃ h, Cond.methodLinkNest RX6 244 yX6_isFilm h ∈ nestW := Or.inl (tGm (i := 838) (by decide +kernel) (by decide +kernel))
set_option maxRecDepth 100000 in
theorem ml_6_248 : Cond.methodLink RX6 248 yX2_copyFrom ∈ tG := tGm (i := 845) (by decide +kernel) (by decide +kernel)
set_option maxRecDepth 100000 in
theorem ml_6_255 : Cond.methodLink RX6 255 yX4_put ∈ tG := tGm (i := 857) (by decide +kernel) (by decide +kernel)
set_option maxRecDepth 100000 in
theorem ml_6_258 : Cond.methodLink RX6 258 yX6_isSheet ∈ tG ∨ ∃ h, Cond.methodLinkNest RX6 258 yX6_isSheet h ∈ nestW := Or.inl (tGm (i := 825) (by decide +kernel) (by decide +kernel))
set_option maxRecDepth 100000 in
theorem ml_6_261 : Cond.methodLink RX6 261 yX4_begin ∈ tG := tGm (i := 866) (by decide +kernel) (by decide +kernel)
set_option maxRecDepth 100000 in
theorem ml_6_273 : Cond.methodLink RX6 273 yX4_holds ∈ tG := tGm (i := 828) (by decide +kernel) (by decide +kernel)
set_option maxRecDepth 100000 in
theorem ml_6_300 : Cond.methodLink RX6 300 yX0_copyFrom ∈ tG := tGm (i := 783) (by decide +kernel) (by decide +kernel)
set_option maxRecDepth 100000 in
theorem ml_6_303 : Cond.methodLink RX6 303 yX0_turnAt ∈ tG := tGm (i := 795) (by decide +kernel) (by decide +kernel)
set_option maxRecDepth 100000 in
theorem ml_6_53 : Cond.methodLink RX6 53 yX6_isBetween ∈ tG ∨ ∃ h, Cond.methodLinkNest RX6 53 yX6_isBetween h ∈ nestW := Or.inl (tGm (i := 178) (by decide +kernel) (by decide +kernel))
set_option maxRecDepth 100000 in
theorem ml_6_65 : Cond.methodLink RX6 65 yX6_tellAnew ∈ tG := tGm (i := 405) (by decide +kernel) (by decide +kernel)
set_option maxRecDepth 100000 in
theorem ml_6_68 : Cond.methodLink RX6 68 yX6_isStair ∈ tG := tGm (i := 413) (by decide +kernel) (by decide +kernel)
set_option maxRecDepth 100000 in
theorem ml_6_96 : Cond.methodLink RX6 96 yX2_addPerson ∈ tG := tGm (i := 437) (by decide +kernel) (by decide +kernel)
set_option maxRecDepth 100000 in
theorem ml_7_101 : Cond.methodLink RX7 101 yX7_in ∈ tG ∨ ∃ h, Cond.methodLinkNest RX7 101 yX7_in h ∈ nestW := Or.inl (tGm (i := 1032) (by decide +kernel) (by decide +kernel))
set_option maxRecDepth 100000 in
theorem ml_7_114 : Cond.methodLink RX7 114 yX7_isOf ∈ tG ∨ ∃ h, Cond.methodLinkNest RX7 114 yX7_isOf h ∈ nestW := Or.inl (tGm (i := 1027) (by decide +kernel) (by decide +kernel))
set_option maxRecDepth 100000 in
theorem ml_7_118 : Cond.methodLink RX7 118 yX7_isStair ∈ tG := tGm (i := 1040) (by decide +kernel) (by decide +kernel)
set_option maxRecDepth 100000 in
theorem ml_7_126 : Cond.methodLink RX7 126 yX7_isSet ∈ tG ∨ ∃ h, Cond.methodLinkNest RX7 126 yX7_isSet h ∈ nestW := Or.inl (tGm (i := 1048) (by decide +kernel) (by decide +kernel))
set_option maxRecDepth 100000 in
theorem ml_7_141 : Cond.methodLink RX7 141 yX7_comes ∈ tG := tGm (i := 1064) (by decide +kernel) (by decide +kernel)
set_option maxRecDepth 100000 in
theorem ml_7_145 : Cond.methodLink RX7 145 yX7_isOne ∈ tG := tGm (i := 1072) (by decide +kernel) (by decide +kernel)
set_option maxRecDepth 100000 in
theorem ml_7_148 : Cond.methodLink RX7 148 yX7_weightOf ∈ tG ∨ ∃ h, Cond.methodLinkNest RX7 148 yX7_weightOf h ∈ nestW := Or.inl (tGm (i := 1076) (by decide +kernel) (by decide +kernel))
set_option maxRecDepth 100000 in
theorem ml_7_170 : Cond.methodLink RX7 170 yX7_here ∈ tG := tGm (i := 1099) (by decide +kernel) (by decide +kernel)
set_option maxRecDepth 100000 in
theorem ml_7_178 : Cond.methodLink RX7 178 yX7_number ∈ tG := tGm (i := 1095) (by decide +kernel) (by decide +kernel)
set_option maxRecDepth 100000 in
theorem ml_7_181 : Cond.methodLink RX7 181 yX7_letter ∈ tG := tGm (i := 1105) (by decide +kernel) (by decide +kernel)
set_option maxRecDepth 100000 in
theorem ml_7_194 : Cond.methodLink RX7 194 yX7_isOn ∈ tG := tGm (i := 1133) (by decide +kernel) (by decide +kernel)
set_option maxRecDepth 100000 in
theorem ml_7_200 : Cond.methodLink RX7 200 yX7_who ∈ tG := tGm (i := 1149) (by decide +kernel) (by decide +kernel)
set_option maxRecDepth 100000 in
theorem ml_7_203 : Cond.methodLink RX7 203 yX7_may ∈ tG := tGm (i := 1161) (by decide +kernel) (by decide +kernel)
set_option maxRecDepth 100000 in
theorem ml_7_207 : Cond.methodLink RX7 207 yX7_weight ∈ tG := tGm (i := 1169) (by decide +kernel) (by decide +kernel)
set_option maxRecDepth 100000 in
theorem ml_7_219 : Cond.methodLink RX7 219 yX7_begins ∈ tG := tGm (i := 1125) (by decide +kernel) (by decide +kernel)
set_option maxRecDepth 100000 in
theorem ml_7_222 : Cond.methodLink RX7 222 yX7_changes ∈ tG := tGm (i := 1129) (by decide +kernel) (by decide +kernel)
set_option maxRecDepth 100000 in
theorem ml_7_226 : Cond.methodLink RX7 226 yX7_goes ∈ tG := tGm (i := 1137) (by decide +kernel) (by decide +kernel)
set_option maxRecDepth 100000 in
theorem ml_7_229 : Cond.methodLink RX7 229 yX7_goesOne ∈ tG := tGm (i := 1141) (by decide +kernel) (by decide +kernel)
set_option maxRecDepth 100000 in
theorem ml_7_232 : Cond.methodLink RX7 232 yX7_walks ∈ tG := tGm (i := 1145) (by decide +kernel) (by decide +kernel)
set_option maxRecDepth 100000 in
theorem ml_7_235 : Cond.methodLink RX7 235 yX7_leaves ∈ tG := tGm (i := 1153) (by decide +kernel) (by decide +kernel)
set_option maxRecDepth 100000 in
theorem ml_7_238 : Cond.methodLink RX7 238 yX7_stepsOn ∈ tG := tGm (i := 1157) (by decide +kernel) (by decide +kernel)
set_option maxRecDepth 100000 in
theorem ml_7_242 : Cond.methodLink RX7 242 yX7_loads ∈ tG := tGm (i := 1165) (by decide +kernel) (by decide +kernel)
set_option maxRecDepth 100000 in
theorem ml_7_245 : Cond.methodLink RX7 245 yX7_notes ∈ tG := tGm (i := 1173) (by decide +kernel) (by decide +kernel)
set_option maxRecDepth 100000 in
theorem ml_7_248 : Cond.methodLink RX7 248 yX7_asTold ∈ tG := tGm (i := 1117) (by decide +kernel) (by decide +kernel)
set_option maxRecDepth 100000 in
theorem ml_7_251 : Cond.methodLink RX7 251 yX7_runs ∈ tG := tGm (i := 1121) (by decide +kernel) (by decide +kernel)
set_option maxRecDepth 100000 in
theorem ml_7_256 : Cond.methodLink RX7 256 yX7_waits ∈ tG := tGm (i := 1190) (by decide +kernel) (by decide +kernel)
set_option maxRecDepth 100000 in
theorem ml_7_259 : Cond.methodLink RX7 259 yX7_throughBy ∈ tG := tGm (i := 1194) (by decide +kernel) (by decide +kernel)
set_option maxRecDepth 100000 in
theorem ml_7_262 : Cond.methodLink RX7 262 yX7_last ∈ tG := tGm (i := 1198) (by decide +kernel) (by decide +kernel)
set_option maxRecDepth 100000 in
theorem ml_7_265 : Cond.methodLink RX7 265 yX7_waysMany ∈ tG := tGm (i := 1206) (by decide +kernel) (by decide +kernel)
set_option maxRecDepth 100000 in
theorem ml_7_268 : Cond.methodLink RX7 268 yX7_lays ∈ tG ∨ ∃ h, Cond.methodLinkNest RX7 268 yX7_lays h ∈ nestW := Or.inl (tGm (i := 1210) (by decide +kernel) (by decide +kernel))
set_option maxRecDepth 100000 in
theorem ml_7_273 : Cond.methodLink RX7 273 yX7_isSheet ∈ tG ∨ ∃ h, Cond.methodLinkNest RX7 273 yX7_isSheet h ∈ nestW := Or.inl (tGm (i := 1234) (by decide +kernel) (by decide +kernel))
set_option maxRecDepth 100000 in
theorem ml_7_276 : Cond.methodLink RX7 276 yX7_isLane ∈ tG ∨ ∃ h, Cond.methodLinkNest RX7 276 yX7_isLane h ∈ nestW := Or.inl (tGm (i := 1237) (by decide +kernel) (by decide +kernel))
set_option maxRecDepth 100000 in
theorem ml_7_279 : Cond.methodLink RX7 279 yX7_finds ∈ tG := tGm (i := 1240) (by decide +kernel) (by decide +kernel)
set_option maxRecDepth 100000 in
theorem ml_7_283 : Cond.methodLink RX7 283 yX7_saves ∈ tG ∨ ∃ h, Cond.methodLinkNest RX7 283 yX7_saves h ∈ nestW := Or.inl (tGm (i := 1248) (by decide +kernel) (by decide +kernel))
set_option maxRecDepth 100000 in
theorem ml_7_290 : Cond.methodLink RX7 290 yX7_gives ∈ tG ∨ ∃ h, Cond.methodLinkNest RX7 290 yX7_gives h ∈ nestW := Or.inl (tGm (i := 1255) (by decide +kernel) (by decide +kernel))
set_option maxRecDepth 100000 in
theorem mm_0_253 : Cond.methodLink RX0 253 Lib.Math.max.name ∈ tG ∧ Cond.static Lib.Math.max.name ∈ tG ∧ Cond.initialized "java/lang/Math" ∈ tG ∧ Cond.code Lib.Math.max.name Lib.Math.max.code 2 (some .int) ∈ tG := ⟨tGm (i := 713) (by decide +kernel) (by decide +kernel), tGm (i := 245) (by decide +kernel) (by decide +kernel), tGm (i := 60) (by decide +kernel) (by decide +kernel), tGm (i := 246) (by decide +kernel) (by decide +kernel)⟩
set_option maxRecDepth 100000 in
theorem mm_1_23 : Cond.methodLink RX1 23 Lib.Math.min.name ∈ tG ∧ Cond.static Lib.Math.min.name ∈ tG ∧ Cond.initialized "java/lang/Math" ∈ tG ∧ Cond.code Lib.Math.min.name Lib.Math.min.code 2 (some .int) ∈ tG := ⟨tGm (i := 241) (by decide +kernel) (by decide +kernel), tGm (i := 242) (by decide +kernel) (by decide +kernel), tGm (i := 60) (by decide +kernel) (by decide +kernel), tGm (i := 243) (by decide +kernel) (by decide +kernel)⟩
set_option maxRecDepth 100000 in
theorem mm_1_29 : Cond.methodLink RX1 29 Lib.Math.max.name ∈ tG ∧ Cond.static Lib.Math.max.name ∈ tG ∧ Cond.initialized "java/lang/Math" ∈ tG ∧ Cond.code Lib.Math.max.name Lib.Math.max.code 2 (some .int) ∈ tG := ⟨tGm (i := 244) (by decide +kernel) (by decide +kernel), tGm (i := 245) (by decide +kernel) (by decide +kernel), tGm (i := 60) (by decide +kernel) (by decide +kernel), tGm (i := 246) (by decide +kernel) (by decide +kernel)⟩
set_option maxRecDepth 100000 in
theorem mm_5_57 : Cond.methodLink RX5 57 Lib.Math.max.name ∈ tG ∧ Cond.static Lib.Math.max.name ∈ tG ∧ Cond.initialized "java/lang/Math" ∈ tG ∧ Cond.code Lib.Math.max.name Lib.Math.max.code 2 (some .int) ∈ tG := ⟨tGm (i := 491) (by decide +kernel) (by decide +kernel), tGm (i := 245) (by decide +kernel) (by decide +kernel), tGm (i := 60) (by decide +kernel) (by decide +kernel), tGm (i := 246) (by decide +kernel) (by decide +kernel)⟩
set_option maxRecDepth 100000 in
theorem mm_5_63 : Cond.methodLink RX5 63 Lib.Math.min.name ∈ tG ∧ Cond.static Lib.Math.min.name ∈ tG ∧ Cond.initialized "java/lang/Math" ∈ tG ∧ Cond.code Lib.Math.min.name Lib.Math.min.code 2 (some .int) ∈ tG := ⟨tGm (i := 492) (by decide +kernel) (by decide +kernel), tGm (i := 242) (by decide +kernel) (by decide +kernel), tGm (i := 60) (by decide +kernel) (by decide +kernel), tGm (i := 243) (by decide +kernel) (by decide +kernel)⟩
set_option maxRecDepth 100000 in
theorem mm_6_295 : Cond.methodLink RX6 295 Lib.Math.min.name ∈ tG ∧ Cond.static Lib.Math.min.name ∈ tG ∧ Cond.initialized "java/lang/Math" ∈ tG ∧ Cond.code Lib.Math.min.name Lib.Math.min.code 2 (some .int) ∈ tG := ⟨tGm (i := 782) (by decide +kernel) (by decide +kernel), tGm (i := 242) (by decide +kernel) (by decide +kernel), tGm (i := 60) (by decide +kernel) (by decide +kernel), tGm (i := 243) (by decide +kernel) (by decide +kernel)⟩
set_option maxRecDepth 100000 in
theorem st_0_143 : Cond.fieldLink RX0 143 RX6 (s_sname 7) "[I" ∈ tG ∨ Cond.fieldLinkNest RX0 143 RX6 (s_sname 7) "[I" RX6 ∈ nestW := Or.inr (nWm (i := 837) (by decide +kernel) (by decide +kernel))
set_option maxRecDepth 100000 in
theorem st_0_268 : Cond.fieldLink RX0 268 RX6 (s_sname 8) "[I" ∈ tG ∨ Cond.fieldLinkNest RX0 268 RX6 (s_sname 8) "[I" RX6 ∈ nestW := Or.inr (nWm (i := 737) (by decide +kernel) (by decide +kernel))
set_option maxRecDepth 100000 in
theorem st_6_286 : Cond.fieldLink RX6 286 RX6 (s_sname 6) "[I" ∈ tG ∨ Cond.fieldLinkNest RX6 286 RX6 (s_sname 6) "[I" RX6 ∈ nestW := Or.inl (tGm (i := 181) (by decide +kernel) (by decide +kernel))
set_option maxRecDepth 100000 in
theorem st_6_46 : Cond.fieldLink RX6 46 RX6 (s_sname 0) "[I" ∈ tG ∨ Cond.fieldLinkNest RX6 46 RX6 (s_sname 0) "[I" RX6 ∈ nestW := Or.inl (tGm (i := 401) (by decide +kernel) (by decide +kernel))
set_option maxRecDepth 100000 in
theorem st_6_50 : Cond.fieldLink RX6 50 RX6 (s_sname 1) "[I" ∈ tG ∨ Cond.fieldLinkNest RX6 50 RX6 (s_sname 1) "[I" RX6 ∈ nestW := Or.inl (tGm (i := 403) (by decide +kernel) (by decide +kernel))
set_option maxRecDepth 100000 in
theorem st_6_72 : Cond.fieldLink RX6 72 RX6 (s_sname 3) "[I" ∈ tG ∨ Cond.fieldLinkNest RX6 72 RX6 (s_sname 3) "[I" RX6 ∈ nestW := Or.inl (tGm (i := 421) (by decide +kernel) (by decide +kernel))
set_option maxRecDepth 100000 in
theorem st_6_75 : Cond.fieldLink RX6 75 RX6 (s_sname 4) "[I" ∈ tG ∨ Cond.fieldLinkNest RX6 75 RX6 (s_sname 4) "[I" RX6 ∈ nestW := Or.inl (tGm (i := 423) (by decide +kernel) (by decide +kernel))
set_option maxRecDepth 100000 in
theorem st_6_81 : Cond.fieldLink RX6 81 RX6 (s_sname 7) "[I" ∈ tG ∨ Cond.fieldLinkNest RX6 81 RX6 (s_sname 7) "[I" RX6 ∈ nestW := Or.inl (tGm (i := 429) (by decide +kernel) (by decide +kernel))
set_option maxRecDepth 100000 in
theorem st_6_90 : Cond.fieldLink RX6 90 RX6 (s_sname 2) "[I" ∈ tG ∨ Cond.fieldLinkNest RX6 90 RX6 (s_sname 2) "[I" RX6 ∈ nestW := Or.inl (tGm (i := 435) (by decide +kernel) (by decide +kernel))
set_option maxRecDepth 100000 in
theorem cc_X6_isBetween : jCl yX6_isBetween cX6_isBetween 3 (some .boolean) 3 ∧ Cond.static yX6_isBetween ∈ tG := ⟨⟨tGm (i := 53) (by decide +kernel) (by decide +kernel), tGm (i := 180) (by decide +kernel) (by decide +kernel), by decide +kernel, by decide +kernel⟩, tGm (i := 179) (by decide +kernel) (by decide +kernel)⟩
set_option maxRecDepth 100000 in
theorem cc_X6_tellAnew : jCl yX6_tellAnew cX6_tellAnew 1 (none) 0 ∧ (Cond.instanceMethod yX6_tellAnew ∈ tG ∧ Cond.selects yX6_tellAnew.cls yX6_tellAnew yX6_tellAnew ∈ tG) := ⟨⟨tGm (i := 53) (by decide +kernel) (by decide +kernel), tGm (i := 408) (by decide +kernel) (by decide +kernel), by decide +kernel, by decide +kernel⟩, tGm (i := 407) (by decide +kernel) (by decide +kernel), tGm (i := 0) (by decide +kernel) (by decide +kernel)⟩
set_option maxRecDepth 100000 in
theorem cc_X6_stair : jCl yX6_stair cX6_stair 4 (some .int) 2 ∧ (Cond.instanceMethod yX6_stair ∈ tG ∧ Cond.selects yX6_stair.cls yX6_stair yX6_stair ∈ tG) := ⟨⟨tGm (i := 53) (by decide +kernel) (by decide +kernel), tGm (i := 400) (by decide +kernel) (by decide +kernel), by decide +kernel, by decide +kernel⟩, tGm (i := 398) (by decide +kernel) (by decide +kernel), tGm (i := 399) (by decide +kernel) (by decide +kernel)⟩
set_option maxRecDepth 100000 in
theorem cc_X6_isStair : jCl yX6_isStair cX6_isStair 2 (some .boolean) 1 ∧ (Cond.instanceMethod yX6_isStair ∈ tG ∧ Cond.selects yX6_isStair.cls yX6_isStair yX6_isStair ∈ tG) := ⟨⟨tGm (i := 53) (by decide +kernel) (by decide +kernel), tGm (i := 416) (by decide +kernel) (by decide +kernel), by decide +kernel, by decide +kernel⟩, tGm (i := 415) (by decide +kernel) (by decide +kernel), tGm (i := 1) (by decide +kernel) (by decide +kernel)⟩
set_option maxRecDepth 100000 in
theorem cc_X6_of : jCl yX6_of cX6_of 5 (some .int) 3 ∧ (Cond.instanceMethod yX6_of ∈ tG ∧ Cond.selects yX6_of.cls yX6_of yX6_of ∈ tG) := ⟨⟨tGm (i := 53) (by decide +kernel) (by decide +kernel), tGm (i := 412) (by decide +kernel) (by decide +kernel), by decide +kernel, by decide +kernel⟩, tGm (i := 410) (by decide +kernel) (by decide +kernel), tGm (i := 411) (by decide +kernel) (by decide +kernel)⟩
set_option maxRecDepth 100000 in
theorem cc_X6_set : jCl yX6_set cX6_set 4 (some .int) 2 ∧ (Cond.instanceMethod yX6_set ∈ tG ∧ Cond.selects yX6_set.cls yX6_set yX6_set ∈ tG) := ⟨⟨tGm (i := 53) (by decide +kernel) (by decide +kernel), tGm (i := 420) (by decide +kernel) (by decide +kernel), by decide +kernel, by decide +kernel⟩, tGm (i := 418) (by decide +kernel) (by decide +kernel), tGm (i := 419) (by decide +kernel) (by decide +kernel)⟩
set_option maxRecDepth 100000 in
theorem cc_X6_change : jCl yX6_change cX6_change 4 (some .int) 2 ∧ (Cond.instanceMethod yX6_change ∈ tG ∧ Cond.selects yX6_change.cls yX6_change yX6_change ∈ tG) := ⟨⟨tGm (i := 53) (by decide +kernel) (by decide +kernel), tGm (i := 428) (by decide +kernel) (by decide +kernel), by decide +kernel, by decide +kernel⟩, tGm (i := 426) (by decide +kernel) (by decide +kernel), tGm (i := 427) (by decide +kernel) (by decide +kernel)⟩
set_option maxRecDepth 100000 in
theorem cc_X2_addPerson : jCl yX2_addPerson cX2_addPerson 4 (none) 3 ∧ (Cond.instanceMethod yX2_addPerson ∈ tG ∧ Cond.selects yX2_addPerson.cls yX2_addPerson yX2_addPerson ∈ tG) := ⟨⟨tGm (i := 54) (by decide +kernel) (by decide +kernel), tGm (i := 440) (by decide +kernel) (by decide +kernel), by decide +kernel, by decide +kernel⟩, tGm (i := 438) (by decide +kernel) (by decide +kernel), tGm (i := 439) (by decide +kernel) (by decide +kernel)⟩
set_option maxRecDepth 100000 in
theorem cc_X6_person : jCl yX6_person cX6_person 4 (some .int) 3 ∧ (Cond.instanceMethod yX6_person ∈ tG ∧ Cond.selects yX6_person.cls yX6_person yX6_person ∈ tG) := ⟨⟨tGm (i := 53) (by decide +kernel) (by decide +kernel), tGm (i := 434) (by decide +kernel) (by decide +kernel), by decide +kernel, by decide +kernel⟩, tGm (i := 432) (by decide +kernel) (by decide +kernel), tGm (i := 433) (by decide +kernel) (by decide +kernel)⟩
set_option maxRecDepth 100000 in
theorem cc_X6_isPerson : jCl yX6_isPerson cX6_isPerson 2 (some .boolean) 1 ∧ (Cond.instanceMethod yX6_isPerson ∈ tG ∧ Cond.selects yX6_isPerson.cls yX6_isPerson yX6_isPerson ∈ tG) := ⟨⟨tGm (i := 53) (by decide +kernel) (by decide +kernel), tGm (i := 448) (by decide +kernel) (by decide +kernel), by decide +kernel, by decide +kernel⟩, tGm (i := 447) (by decide +kernel) (by decide +kernel), tGm (i := 2) (by decide +kernel) (by decide +kernel)⟩
set_option maxRecDepth 100000 in
theorem cc_X6_weightOf : jCl yX6_weightOf cX6_weightOf 1 (some .int) 1 ∧ Cond.static yX6_weightOf ∈ tG := ⟨⟨tGm (i := 53) (by decide +kernel) (by decide +kernel), tGm (i := 177) (by decide +kernel) (by decide +kernel), by decide +kernel, by decide +kernel⟩, tGm (i := 176) (by decide +kernel) (by decide +kernel)⟩
set_option maxRecDepth 100000 in
theorem cc_X6_told : jCl yX6_told cX6_told 3 (some .int) 2 ∧ (Cond.instanceMethod yX6_told ∈ tG ∧ Cond.selects yX6_told.cls yX6_told yX6_told ∈ tG) := ⟨⟨tGm (i := 53) (by decide +kernel) (by decide +kernel), tGm (i := 444) (by decide +kernel) (by decide +kernel), by decide +kernel, by decide +kernel⟩, tGm (i := 442) (by decide +kernel) (by decide +kernel), tGm (i := 443) (by decide +kernel) (by decide +kernel)⟩
set_option maxRecDepth 100000 in
theorem cc_X2_removePerson : jCl yX2_removePerson cX2_removePerson 4 (none) 1 ∧ (Cond.instanceMethod yX2_removePerson ∈ tG ∧ Cond.selects yX2_removePerson.cls yX2_removePerson yX2_removePerson ∈ tG) := ⟨⟨tGm (i := 54) (by decide +kernel) (by decide +kernel), tGm (i := 457) (by decide +kernel) (by decide +kernel), by decide +kernel, by decide +kernel⟩, tGm (i := 455) (by decide +kernel) (by decide +kernel), tGm (i := 456) (by decide +kernel) (by decide +kernel)⟩
set_option maxRecDepth 100000 in
theorem cc_X6_strike : jCl yX6_strike cX6_strike 2 (some .int) 1 ∧ (Cond.instanceMethod yX6_strike ∈ tG ∧ Cond.selects yX6_strike.cls yX6_strike yX6_strike ∈ tG) := ⟨⟨tGm (i := 53) (by decide +kernel) (by decide +kernel), tGm (i := 453) (by decide +kernel) (by decide +kernel), by decide +kernel, by decide +kernel⟩, tGm (i := 451) (by decide +kernel) (by decide +kernel), tGm (i := 452) (by decide +kernel) (by decide +kernel)⟩
set_option maxRecDepth 100000 in
theorem cc_X6_byteOf : jCl yX6_byteOf cX6_byteOf 3 (some .int) 2 ∧ Cond.static yX6_byteOf ∈ tG := ⟨⟨tGm (i := 53) (by decide +kernel) (by decide +kernel), tGm (i := 464) (by decide +kernel) (by decide +kernel), by decide +kernel, by decide +kernel⟩, tGm (i := 463) (by decide +kernel) (by decide +kernel)⟩
set_option maxRecDepth 100000 in
theorem cc_X5_add : jCl yX5_add cX5_add 2 (none) 1 ∧ (Cond.instanceMethod yX5_add ∈ tG ∧ Cond.selects yX5_add.cls yX5_add yX5_add ∈ tG) := ⟨⟨tGm (i := 56) (by decide +kernel) (by decide +kernel), tGm (i := 469) (by decide +kernel) (by decide +kernel), by decide +kernel, by decide +kernel⟩, tGm (i := 467) (by decide +kernel) (by decide +kernel), tGm (i := 468) (by decide +kernel) (by decide +kernel)⟩
set_option maxRecDepth 100000 in
theorem cc_X6_type : jCl yX6_type cX6_type 5 (some .int) 2 ∧ (Cond.instanceMethod yX6_type ∈ tG ∧ Cond.selects yX6_type.cls yX6_type yX6_type ∈ tG) := ⟨⟨tGm (i := 53) (by decide +kernel) (by decide +kernel), tGm (i := 461) (by decide +kernel) (by decide +kernel), by decide +kernel, by decide +kernel⟩, tGm (i := 459) (by decide +kernel) (by decide +kernel), tGm (i := 460) (by decide +kernel) (by decide +kernel)⟩
set_option maxRecDepth 100000 in
theorem cc_X5_nextByte : jCl yX5_nextByte cX5_nextByte 1 (some .int) 0 ∧ (Cond.instanceMethod yX5_nextByte ∈ tG ∧ Cond.selects yX5_nextByte.cls yX5_nextByte yX5_nextByte ∈ tG) := ⟨⟨tGm (i := 56) (by decide +kernel) (by decide +kernel), tGm (i := 485) (by decide +kernel) (by decide +kernel), by decide +kernel, by decide +kernel⟩, tGm (i := 484) (by decide +kernel) (by decide +kernel), tGm (i := 4) (by decide +kernel) (by decide +kernel)⟩
set_option maxRecDepth 100000 in
theorem cc_X5_parseNumber : jCl yX5_parseNumber cX5_parseNumber 2 (some .int) 0 ∧ (Cond.instanceMethod yX5_parseNumber ∈ tG ∧ Cond.selects yX5_parseNumber.cls yX5_parseNumber yX5_parseNumber ∈ tG) := ⟨⟨tGm (i := 56) (by decide +kernel) (by decide +kernel), tGm (i := 489) (by decide +kernel) (by decide +kernel), by decide +kernel, by decide +kernel⟩, tGm (i := 488) (by decide +kernel) (by decide +kernel), tGm (i := 5) (by decide +kernel) (by decide +kernel)⟩
set_option maxRecDepth 100000 in
theorem cc_X5_nextLetter : jCl yX5_nextLetter cX5_nextLetter 1 (some .int) 0 ∧ (Cond.instanceMethod yX5_nextLetter ∈ tG ∧ Cond.selects yX5_nextLetter.cls yX5_nextLetter yX5_nextLetter ∈ tG) := ⟨⟨tGm (i := 56) (by decide +kernel) (by decide +kernel), tGm (i := 497) (by decide +kernel) (by decide +kernel), by decide +kernel, by decide +kernel⟩, tGm (i := 496) (by decide +kernel) (by decide +kernel), tGm (i := 6) (by decide +kernel) (by decide +kernel)⟩
set_option maxRecDepth 100000 in
theorem cc_X5_parsePerson : jCl yX5_parsePerson cX5_parsePerson 6 (some .int) 1 ∧ (Cond.instanceMethod yX5_parsePerson ∈ tG ∧ Cond.selects yX5_parsePerson.cls yX5_parsePerson yX5_parsePerson ∈ tG) := ⟨⟨tGm (i := 56) (by decide +kernel) (by decide +kernel), tGm (i := 481) (by decide +kernel) (by decide +kernel), by decide +kernel, by decide +kernel⟩, tGm (i := 480) (by decide +kernel) (by decide +kernel), tGm (i := 3) (by decide +kernel) (by decide +kernel)⟩
set_option maxRecDepth 100000 in
theorem cc_X5_parse : jCl yX5_parse cX5_parse 4 (some .int) 0 ∧ (Cond.instanceMethod yX5_parse ∈ tG ∧ Cond.selects yX5_parse.cls yX5_parse yX5_parse ∈ tG) := ⟨⟨tGm (i := 56) (by decide +kernel) (by decide +kernel), tGm (i := 477) (by decide +kernel) (by decide +kernel), by decide +kernel, by decide +kernel⟩, tGm (i := 475) (by decide +kernel) (by decide +kernel), tGm (i := 476) (by decide +kernel) (by decide +kernel)⟩
set_option maxRecDepth 100000 in
theorem cc_X6_people : jCl yX6_people cX6_people 3 (some .int) 0 ∧ (Cond.instanceMethod yX6_people ∈ tG ∧ Cond.selects yX6_people.cls yX6_people yX6_people ∈ tG) := ⟨⟨tGm (i := 53) (by decide +kernel) (by decide +kernel), tGm (i := 473) (by decide +kernel) (by decide +kernel), by decide +kernel, by decide +kernel⟩, tGm (i := 471) (by decide +kernel) (by decide +kernel), tGm (i := 472) (by decide +kernel) (by decide +kernel)⟩
set_option maxRecDepth 100000 in
theorem cc_X2_countUp : jCl yX2_countUp cX2_countUp 3 (some .int) 0 ∧ (Cond.instanceMethod yX2_countUp ∈ tG ∧ Cond.selects yX2_countUp.cls yX2_countUp yX2_countUp ∈ tG) := ⟨⟨tGm (i := 54) (by decide +kernel) (by decide +kernel), tGm (i := 589) (by decide +kernel) (by decide +kernel), by decide +kernel, by decide +kernel⟩, tGm (i := 587) (by decide +kernel) (by decide +kernel), tGm (i := 588) (by decide +kernel) (by decide +kernel)⟩
set_option maxRecDepth 100000 in
theorem cc_X6_count : jCl yX6_count cX6_count 2 (some .int) 1 ∧ (Cond.instanceMethod yX6_count ∈ tG ∧ Cond.selects yX6_count.cls yX6_count yX6_count ∈ tG) := ⟨⟨tGm (i := 53) (by decide +kernel) (by decide +kernel), tGm (i := 585) (by decide +kernel) (by decide +kernel), by decide +kernel, by decide +kernel⟩, tGm (i := 583) (by decide +kernel) (by decide +kernel), tGm (i := 584) (by decide +kernel) (by decide +kernel)⟩
set_option maxRecDepth 100000 in
theorem cc_X0_turnAt : jCl yX0_turnAt cX0_turnAt 3 (none) 2 ∧ (Cond.instanceMethod yX0_turnAt ∈ tG ∧ Cond.selects yX0_turnAt.cls yX0_turnAt yX0_turnAt ∈ tG) := ⟨⟨tGm (i := 57) (by decide +kernel) (by decide +kernel), tGm (i := 607) (by decide +kernel) (by decide +kernel), by decide +kernel, by decide +kernel⟩, tGm (i := 605) (by decide +kernel) (by decide +kernel), tGm (i := 606) (by decide +kernel) (by decide +kernel)⟩
set_option maxRecDepth 100000 in
theorem cc_X1_empty : jCl yX1_empty cX1_empty 1 (none) 0 ∧ (Cond.instanceMethod yX1_empty ∈ tG ∧ Cond.selects yX1_empty.cls yX1_empty yX1_empty ∈ tG) := ⟨⟨tGm (i := 59) (by decide +kernel) (by decide +kernel), tGm (i := 250) (by decide +kernel) (by decide +kernel), by decide +kernel, by decide +kernel⟩, tGm (i := 248) (by decide +kernel) (by decide +kernel), tGm (i := 249) (by decide +kernel) (by decide +kernel)⟩
set_option maxRecDepth 100000 in
theorem cc_X1_begin : jCl yX1_begin cX1_begin 4 (none) 3 ∧ (Cond.instanceMethod yX1_begin ∈ tG ∧ Cond.selects yX1_begin.cls yX1_begin yX1_begin ∈ tG) := ⟨⟨tGm (i := 59) (by decide +kernel) (by decide +kernel), tGm (i := 240) (by decide +kernel) (by decide +kernel), by decide +kernel, by decide +kernel⟩, tGm (i := 238) (by decide +kernel) (by decide +kernel), tGm (i := 239) (by decide +kernel) (by decide +kernel)⟩
set_option maxRecDepth 100000 in
theorem cc_X3_begin : jCl yX3_begin cX3_begin 4 (none) 3 ∧ (Cond.instanceMethod yX3_begin ∈ tG ∧ Cond.selects yX3_begin.cls yX3_begin yX3_begin ∈ tG) := ⟨⟨tGm (i := 58) (by decide +kernel) (by decide +kernel), tGm (i := 174) (by decide +kernel) (by decide +kernel), by decide +kernel, by decide +kernel⟩, tGm (i := 172) (by decide +kernel) (by decide +kernel), tGm (i := 173) (by decide +kernel) (by decide +kernel)⟩
set_option maxRecDepth 100000 in
theorem cc_X0_lineUp : jCl yX0_lineUp cX0_lineUp 3 (none) 1 ∧ (Cond.instanceMethod yX0_lineUp ∈ tG ∧ Cond.selects yX0_lineUp.cls yX0_lineUp yX0_lineUp ∈ tG) := ⟨⟨tGm (i := 57) (by decide +kernel) (by decide +kernel), tGm (i := 613) (by decide +kernel) (by decide +kernel), by decide +kernel, by decide +kernel⟩, tGm (i := 612) (by decide +kernel) (by decide +kernel), tGm (i := 8) (by decide +kernel) (by decide +kernel)⟩
set_option maxRecDepth 100000 in
theorem cc_X0_load : jCl yX0_load cX0_load 4 (none) 2 ∧ (Cond.instanceMethod yX0_load ∈ tG ∧ Cond.selects yX0_load.cls yX0_load yX0_load ∈ tG) := ⟨⟨tGm (i := 57) (by decide +kernel) (by decide +kernel), tGm (i := 601) (by decide +kernel) (by decide +kernel), by decide +kernel, by decide +kernel⟩, tGm (i := 599) (by decide +kernel) (by decide +kernel), tGm (i := 600) (by decide +kernel) (by decide +kernel)⟩
set_option maxRecDepth 100000 in
theorem cc_X0_arrive : jCl yX0_arrive cX0_arrive 2 (none) 1 ∧ (Cond.instanceMethod yX0_arrive ∈ tG ∧ Cond.selects yX0_arrive.cls yX0_arrive yX0_arrive ∈ tG) := ⟨⟨tGm (i := 57) (by decide +kernel) (by decide +kernel), tGm (i := 625) (by decide +kernel) (by decide +kernel), by decide +kernel, by decide +kernel⟩, tGm (i := 624) (by decide +kernel) (by decide +kernel), tGm (i := 10) (by decide +kernel) (by decide +kernel)⟩
set_option maxRecDepth 100000 in
theorem cc_X6_wayOf : jCl yX6_wayOf cX6_wayOf 2 (some .int) 2 ∧ Cond.static yX6_wayOf ∈ tG := ⟨⟨tGm (i := 53) (by decide +kernel) (by decide +kernel), tGm (i := 632) (by decide +kernel) (by decide +kernel), by decide +kernel, by decide +kernel⟩, tGm (i := 631) (by decide +kernel) (by decide +kernel)⟩
set_option maxRecDepth 100000 in
theorem cc_X3_goThrough : jCl yX3_goThrough cX3_goThrough 2 (none) 1 ∧ (Cond.instanceMethod yX3_goThrough ∈ tG ∧ Cond.selects yX3_goThrough.cls yX3_goThrough yX3_goThrough ∈ tG) := ⟨⟨tGm (i := 58) (by decide +kernel) (by decide +kernel), tGm (i := 640) (by decide +kernel) (by decide +kernel), by decide +kernel, by decide +kernel⟩, tGm (i := 638) (by decide +kernel) (by decide +kernel), tGm (i := 639) (by decide +kernel) (by decide +kernel)⟩
set_option maxRecDepth 100000 in
theorem cc_X0_letAllThrough : jCl yX0_letAllThrough cX0_letAllThrough 4 (none) 2 ∧ (Cond.instanceMethod yX0_letAllThrough ∈ tG ∧ Cond.selects yX0_letAllThrough.cls yX0_letAllThrough yX0_letAllThrough ∈ tG) := ⟨⟨tGm (i := 57) (by decide +kernel) (by decide +kernel), tGm (i := 636) (by decide +kernel) (by decide +kernel), by decide +kernel, by decide +kernel⟩, tGm (i := 635) (by decide +kernel) (by decide +kernel), tGm (i := 12) (by decide +kernel) (by decide +kernel)⟩
set_option maxRecDepth 100000 in
theorem cc_X1_who : jCl yX1_who cX1_who 3 (some .int) 2 ∧ (Cond.instanceMethod yX1_who ∈ tG ∧ Cond.selects yX1_who.cls yX1_who yX1_who ∈ tG) := ⟨⟨tGm (i := 59) (by decide +kernel) (by decide +kernel), tGm (i := 649) (by decide +kernel) (by decide +kernel), by decide +kernel, by decide +kernel⟩, tGm (i := 647) (by decide +kernel) (by decide +kernel), tGm (i := 648) (by decide +kernel) (by decide +kernel)⟩
set_option maxRecDepth 100000 in
theorem cc_X1_put : jCl yX1_put cX1_put 4 (none) 3 ∧ (Cond.instanceMethod yX1_put ∈ tG ∧ Cond.selects yX1_put.cls yX1_put yX1_put ∈ tG) := ⟨⟨tGm (i := 59) (by decide +kernel) (by decide +kernel), tGm (i := 653) (by decide +kernel) (by decide +kernel), by decide +kernel, by decide +kernel⟩, tGm (i := 651) (by decide +kernel) (by decide +kernel), tGm (i := 652) (by decide +kernel) (by decide +kernel)⟩
set_option maxRecDepth 100000 in
theorem cc_X1_turnRound : jCl yX1_turnRound cX1_turnRound 5 (none) 0 ∧ (Cond.instanceMethod yX1_turnRound ∈ tG ∧ Cond.selects yX1_turnRound.cls yX1_turnRound yX1_turnRound ∈ tG) := ⟨⟨tGm (i := 59) (by decide +kernel) (by decide +kernel), tGm (i := 645) (by decide +kernel) (by decide +kernel), by decide +kernel, by decide +kernel⟩, tGm (i := 643) (by decide +kernel) (by decide +kernel), tGm (i := 644) (by decide +kernel) (by decide +kernel)⟩
set_option maxRecDepth 100000 in
theorem cc_X0_turn : jCl yX0_turn cX0_turn 5 (none) 1 ∧ (Cond.instanceMethod yX0_turn ∈ tG ∧ Cond.selects yX0_turn.cls yX0_turn yX0_turn ∈ tG) := ⟨⟨tGm (i := 57) (by decide +kernel) (by decide +kernel), tGm (i := 629) (by decide +kernel) (by decide +kernel), by decide +kernel, by decide +kernel⟩, tGm (i := 628) (by decide +kernel) (by decide +kernel), tGm (i := 11) (by decide +kernel) (by decide +kernel)⟩
set_option maxRecDepth 100000 in
theorem cc_X1_moves : jCl yX1_moves cX1_moves 1 (some .boolean) 0 ∧ (Cond.instanceMethod yX1_moves ∈ tG ∧ Cond.selects yX1_moves.cls yX1_moves yX1_moves ∈ tG) := ⟨⟨tGm (i := 59) (by decide +kernel) (by decide +kernel), tGm (i := 657) (by decide +kernel) (by decide +kernel), by decide +kernel, by decide +kernel⟩, tGm (i := 655) (by decide +kernel) (by decide +kernel), tGm (i := 656) (by decide +kernel) (by decide +kernel)⟩
set_option maxRecDepth 100000 in
theorem cc_X1_endFloor : jCl yX1_endFloor cX1_endFloor 1 (some .int) 0 ∧ (Cond.instanceMethod yX1_endFloor ∈ tG ∧ Cond.selects yX1_endFloor.cls yX1_endFloor yX1_endFloor ∈ tG) := ⟨⟨tGm (i := 59) (by decide +kernel) (by decide +kernel), tGm (i := 665) (by decide +kernel) (by decide +kernel), by decide +kernel, by decide +kernel⟩, tGm (i := 663) (by decide +kernel) (by decide +kernel), tGm (i := 664) (by decide +kernel) (by decide +kernel)⟩
set_option maxRecDepth 100000 in
theorem cc_X1_countOnLastStep : jCl yX1_countOnLastStep cX1_countOnLastStep 4 (some .int) 0 ∧ (Cond.instanceMethod yX1_countOnLastStep ∈ tG ∧ Cond.selects yX1_countOnLastStep.cls yX1_countOnLastStep yX1_countOnLastStep ∈ tG) := ⟨⟨tGm (i := 59) (by decide +kernel) (by decide +kernel), tGm (i := 669) (by decide +kernel) (by decide +kernel), by decide +kernel, by decide +kernel⟩, tGm (i := 667) (by decide +kernel) (by decide +kernel), tGm (i := 668) (by decide +kernel) (by decide +kernel)⟩
set_option maxRecDepth 100000 in
theorem cc_X0_land : jCl yX0_land cX0_land 6 (none) 3 ∧ (Cond.instanceMethod yX0_land ∈ tG ∧ Cond.selects yX0_land.cls yX0_land yX0_land ∈ tG) := ⟨⟨tGm (i := 57) (by decide +kernel) (by decide +kernel), tGm (i := 673) (by decide +kernel) (by decide +kernel), by decide +kernel, by decide +kernel⟩, tGm (i := 672) (by decide +kernel) (by decide +kernel), tGm (i := 14) (by decide +kernel) (by decide +kernel)⟩
set_option maxRecDepth 100000 in
theorem cc_X1_goOneStep : jCl yX1_goOneStep cX1_goOneStep 1 (none) 0 ∧ (Cond.instanceMethod yX1_goOneStep ∈ tG ∧ Cond.selects yX1_goOneStep.cls yX1_goOneStep yX1_goOneStep ∈ tG) := ⟨⟨tGm (i := 59) (by decide +kernel) (by decide +kernel), tGm (i := 678) (by decide +kernel) (by decide +kernel), by decide +kernel, by decide +kernel⟩, tGm (i := 676) (by decide +kernel) (by decide +kernel), tGm (i := 677) (by decide +kernel) (by decide +kernel)⟩
set_option maxRecDepth 100000 in
theorem cc_X0_walk : jCl yX0_walk cX0_walk 4 (none) 1 ∧ (Cond.instanceMethod yX0_walk ∈ tG ∧ Cond.selects yX0_walk.cls yX0_walk yX0_walk ∈ tG) := ⟨⟨tGm (i := 57) (by decide +kernel) (by decide +kernel), tGm (i := 683) (by decide +kernel) (by decide +kernel), by decide +kernel, by decide +kernel⟩, tGm (i := 682) (by decide +kernel) (by decide +kernel), tGm (i := 15) (by decide +kernel) (by decide +kernel)⟩
set_option maxRecDepth 100000 in
theorem cc_X0_advance : jCl yX0_advance cX0_advance 6 (none) 2 ∧ (Cond.instanceMethod yX0_advance ∈ tG ∧ Cond.selects yX0_advance.cls yX0_advance yX0_advance ∈ tG) := ⟨⟨tGm (i := 57) (by decide +kernel) (by decide +kernel), tGm (i := 661) (by decide +kernel) (by decide +kernel), by decide +kernel, by decide +kernel⟩, tGm (i := 660) (by decide +kernel) (by decide +kernel), tGm (i := 13) (by decide +kernel) (by decide +kernel)⟩
set_option maxRecDepth 100000 in
theorem cc_X0_firstOnLanding : jCl yX0_firstOnLanding cX0_firstOnLanding 4 (some .int) 1 ∧ (Cond.instanceMethod yX0_firstOnLanding ∈ tG ∧ Cond.selects yX0_firstOnLanding.cls yX0_firstOnLanding yX0_firstOnLanding ∈ tG) := ⟨⟨tGm (i := 57) (by decide +kernel) (by decide +kernel), tGm (i := 692) (by decide +kernel) (by decide +kernel), by decide +kernel, by decide +kernel⟩, tGm (i := 691) (by decide +kernel) (by decide +kernel), tGm (i := 17) (by decide +kernel) (by decide +kernel)⟩
set_option maxRecDepth 100000 in
theorem cc_X0_leave : jCl yX0_leave cX0_leave 5 (none) 2 ∧ (Cond.instanceMethod yX0_leave ∈ tG ∧ Cond.selects yX0_leave.cls yX0_leave yX0_leave ∈ tG) := ⟨⟨tGm (i := 57) (by decide +kernel) (by decide +kernel), tGm (i := 688) (by decide +kernel) (by decide +kernel), by decide +kernel, by decide +kernel⟩, tGm (i := 687) (by decide +kernel) (by decide +kernel), tGm (i := 16) (by decide +kernel) (by decide +kernel)⟩
set_option maxRecDepth 100000 in
theorem cc_X1_startFloor : jCl yX1_startFloor cX1_startFloor 1 (some .int) 0 ∧ (Cond.instanceMethod yX1_startFloor ∈ tG ∧ Cond.selects yX1_startFloor.cls yX1_startFloor yX1_startFloor ∈ tG) := ⟨⟨tGm (i := 59) (by decide +kernel) (by decide +kernel), tGm (i := 704) (by decide +kernel) (by decide +kernel), by decide +kernel, by decide +kernel⟩, tGm (i := 702) (by decide +kernel) (by decide +kernel), tGm (i := 703) (by decide +kernel) (by decide +kernel)⟩
set_option maxRecDepth 100000 in
theorem cc_X0_mayBoard : jCl yX0_mayBoard cX0_mayBoard 7 (some .boolean) 3 ∧ (Cond.instanceMethod yX0_mayBoard ∈ tG ∧ Cond.selects yX0_mayBoard.cls yX0_mayBoard yX0_mayBoard ∈ tG) := ⟨⟨tGm (i := 57) (by decide +kernel) (by decide +kernel), tGm (i := 708) (by decide +kernel) (by decide +kernel), by decide +kernel, by decide +kernel⟩, tGm (i := 707) (by decide +kernel) (by decide +kernel), tGm (i := 20) (by decide +kernel) (by decide +kernel)⟩
set_option maxRecDepth 100000 in
theorem cc_X0_firstToBoard : jCl yX0_firstToBoard cX0_firstToBoard 6 (some .int) 2 ∧ (Cond.instanceMethod yX0_firstToBoard ∈ tG ∧ Cond.selects yX0_firstToBoard.cls yX0_firstToBoard yX0_firstToBoard ∈ tG) := ⟨⟨tGm (i := 57) (by decide +kernel) (by decide +kernel), tGm (i := 700) (by decide +kernel) (by decide +kernel), by decide +kernel, by decide +kernel⟩, tGm (i := 699) (by decide +kernel) (by decide +kernel), tGm (i := 19) (by decide +kernel) (by decide +kernel)⟩
set_option maxRecDepth 100000 in
theorem cc_X0_board : jCl yX0_board cX0_board 7 (none) 2 ∧ (Cond.instanceMethod yX0_board ∈ tG ∧ Cond.selects yX0_board.cls yX0_board yX0_board ∈ tG) := ⟨⟨tGm (i := 57) (by decide +kernel) (by decide +kernel), tGm (i := 696) (by decide +kernel) (by decide +kernel), by decide +kernel, by decide +kernel⟩, tGm (i := 695) (by decide +kernel) (by decide +kernel), tGm (i := 18) (by decide +kernel) (by decide +kernel)⟩
set_option maxRecDepth 100000 in
theorem cc_X0_letWalkersFall : jCl yX0_letWalkersFall cX0_letWalkersFall 4 (none) 1 ∧ (Cond.instanceMethod yX0_letWalkersFall ∈ tG ∧ Cond.selects yX0_letWalkersFall.cls yX0_letWalkersFall yX0_letWalkersFall ∈ tG) := ⟨⟨tGm (i := 57) (by decide +kernel) (by decide +kernel), tGm (i := 717) (by decide +kernel) (by decide +kernel), by decide +kernel, by decide +kernel⟩, tGm (i := 716) (by decide +kernel) (by decide +kernel), tGm (i := 22) (by decide +kernel) (by decide +kernel)⟩
set_option maxRecDepth 100000 in
theorem cc_X0_weigh : jCl yX0_weigh cX0_weigh 4 (none) 1 ∧ (Cond.instanceMethod yX0_weigh ∈ tG ∧ Cond.selects yX0_weigh.cls yX0_weigh yX0_weigh ∈ tG) := ⟨⟨tGm (i := 57) (by decide +kernel) (by decide +kernel), tGm (i := 712) (by decide +kernel) (by decide +kernel), by decide +kernel, by decide +kernel⟩, tGm (i := 711) (by decide +kernel) (by decide +kernel), tGm (i := 21) (by decide +kernel) (by decide +kernel)⟩
set_option maxRecDepth 100000 in
theorem cc_X0_passTick : jCl yX0_passTick cX0_passTick 3 (none) 1 ∧ (Cond.instanceMethod yX0_passTick ∈ tG ∧ Cond.selects yX0_passTick.cls yX0_passTick yX0_passTick ∈ tG) := ⟨⟨tGm (i := 57) (by decide +kernel) (by decide +kernel), tGm (i := 621) (by decide +kernel) (by decide +kernel), by decide +kernel, by decide +kernel⟩, tGm (i := 620) (by decide +kernel) (by decide +kernel), tGm (i := 9) (by decide +kernel) (by decide +kernel)⟩
set_option maxRecDepth 100000 in
theorem cc_X0_run : jCl yX0_run cX0_run 4 (none) 2 ∧ (Cond.instanceMethod yX0_run ∈ tG ∧ Cond.selects yX0_run.cls yX0_run yX0_run ∈ tG) := ⟨⟨tGm (i := 57) (by decide +kernel) (by decide +kernel), tGm (i := 617) (by decide +kernel) (by decide +kernel), by decide +kernel, by decide +kernel⟩, tGm (i := 615) (by decide +kernel) (by decide +kernel), tGm (i := 616) (by decide +kernel) (by decide +kernel)⟩
set_option maxRecDepth 100000 in
theorem cc_X6_toldDay : jCl yX6_toldDay cX6_toldDay 1 (some (.object RX0)) 0 ∧ (Cond.instanceMethod yX6_toldDay ∈ tG ∧ Cond.selects yX6_toldDay.cls yX6_toldDay yX6_toldDay ∈ tG) := ⟨⟨tGm (i := 53) (by decide +kernel) (by decide +kernel), tGm (i := 597) (by decide +kernel) (by decide +kernel), by decide +kernel, by decide +kernel⟩, tGm (i := 596) (by decide +kernel) (by decide +kernel), tGm (i := 7) (by decide +kernel) (by decide +kernel)⟩
set_option maxRecDepth 100000 in
theorem cc_X6_orNone : jCl yX6_orNone cX6_orNone 1 (some .int) 1 ∧ Cond.static yX6_orNone ∈ tG := ⟨⟨tGm (i := 53) (by decide +kernel) (by decide +kernel), tGm (i := 720) (by decide +kernel) (by decide +kernel), by decide +kernel, by decide +kernel⟩, tGm (i := 719) (by decide +kernel) (by decide +kernel)⟩
set_option maxRecDepth 100000 in
theorem cc_X3_countWait : jCl yX3_countWait cX3_countWait 1 (some .int) 0 ∧ (Cond.instanceMethod yX3_countWait ∈ tG ∧ Cond.selects yX3_countWait.cls yX3_countWait yX3_countWait ∈ tG) := ⟨⟨tGm (i := 58) (by decide +kernel) (by decide +kernel), tGm (i := 724) (by decide +kernel) (by decide +kernel), by decide +kernel, by decide +kernel⟩, tGm (i := 722) (by decide +kernel) (by decide +kernel), tGm (i := 723) (by decide +kernel) (by decide +kernel)⟩
set_option maxRecDepth 100000 in
theorem cc_X6_fate : jCl yX6_fate cX6_fate 4 (some .int) 2 ∧ (Cond.instanceMethod yX6_fate ∈ tG ∧ Cond.selects yX6_fate.cls yX6_fate yX6_fate ∈ tG) := ⟨⟨tGm (i := 53) (by decide +kernel) (by decide +kernel), tGm (i := 593) (by decide +kernel) (by decide +kernel), by decide +kernel, by decide +kernel⟩, tGm (i := 591) (by decide +kernel) (by decide +kernel), tGm (i := 592) (by decide +kernel) (by decide +kernel)⟩
set_option maxRecDepth 100000 in
theorem cc_X0_setOf : jCl yX0_setOf cX0_setOf 4 (some .int) 1 ∧ (Cond.instanceMethod yX0_setOf ∈ tG ∧ Cond.selects yX0_setOf.cls yX0_setOf yX0_setOf ∈ tG) := ⟨⟨tGm (i := 57) (by decide +kernel) (by decide +kernel), tGm (i := 732) (by decide +kernel) (by decide +kernel), by decide +kernel, by decide +kernel⟩, tGm (i := 730) (by decide +kernel) (by decide +kernel), tGm (i := 731) (by decide +kernel) (by decide +kernel)⟩
set_option maxRecDepth 100000 in
theorem cc_X0_tripDigits : jCl yX0_tripDigits cX0_tripDigits 3 (some .int) 0 ∧ (Cond.instanceMethod yX0_tripDigits ∈ tG ∧ Cond.selects yX0_tripDigits.cls yX0_tripDigits yX0_tripDigits ∈ tG) := ⟨⟨tGm (i := 57) (by decide +kernel) (by decide +kernel), tGm (i := 736) (by decide +kernel) (by decide +kernel), by decide +kernel, by decide +kernel⟩, tGm (i := 734) (by decide +kernel) (by decide +kernel), tGm (i := 735) (by decide +kernel) (by decide +kernel)⟩
set_option maxRecDepth 100000 in
theorem cc_X6_at : jCl yX6_at cX6_at 3 (some .int) 2 ∧ (Cond.instanceMethod yX6_at ∈ tG ∧ Cond.selects yX6_at.cls yX6_at yX6_at ∈ tG) := ⟨⟨tGm (i := 53) (by decide +kernel) (by decide +kernel), tGm (i := 728) (by decide +kernel) (by decide +kernel), by decide +kernel, by decide +kernel⟩, tGm (i := 726) (by decide +kernel) (by decide +kernel), tGm (i := 727) (by decide +kernel) (by decide +kernel)⟩
set_option maxRecDepth 100000 in
theorem cc_X6_on : jCl yX6_on cX6_on 5 (some .int) 4 ∧ (Cond.instanceMethod yX6_on ∈ tG ∧ Cond.selects yX6_on.cls yX6_on yX6_on ∈ tG) := ⟨⟨tGm (i := 53) (by decide +kernel) (by decide +kernel), tGm (i := 742) (by decide +kernel) (by decide +kernel), by decide +kernel, by decide +kernel⟩, tGm (i := 740) (by decide +kernel) (by decide +kernel), tGm (i := 741) (by decide +kernel) (by decide +kernel)⟩
set_option maxRecDepth 100000 in
theorem cc_X0_setOfFallen : jCl yX0_setOfFallen cX0_setOfFallen 3 (some .int) 0 ∧ (Cond.instanceMethod yX0_setOfFallen ∈ tG ∧ Cond.selects yX0_setOfFallen.cls yX0_setOfFallen yX0_setOfFallen ∈ tG) := ⟨⟨tGm (i := 57) (by decide +kernel) (by decide +kernel), tGm (i := 751) (by decide +kernel) (by decide +kernel), by decide +kernel, by decide +kernel⟩, tGm (i := 749) (by decide +kernel) (by decide +kernel), tGm (i := 750) (by decide +kernel) (by decide +kernel)⟩
set_option maxRecDepth 100000 in
theorem cc_X0_countThrough : jCl yX0_countThrough cX0_countThrough 4 (some .int) 1 ∧ (Cond.instanceMethod yX0_countThrough ∈ tG ∧ Cond.selects yX0_countThrough.cls yX0_countThrough yX0_countThrough ∈ tG) := ⟨⟨tGm (i := 57) (by decide +kernel) (by decide +kernel), tGm (i := 755) (by decide +kernel) (by decide +kernel), by decide +kernel, by decide +kernel⟩, tGm (i := 753) (by decide +kernel) (by decide +kernel), tGm (i := 754) (by decide +kernel) (by decide +kernel)⟩
set_option maxRecDepth 100000 in
theorem cc_X0_lastThrough : jCl yX0_lastThrough cX0_lastThrough 3 (some .int) 0 ∧ (Cond.instanceMethod yX0_lastThrough ∈ tG ∧ Cond.selects yX0_lastThrough.cls yX0_lastThrough yX0_lastThrough ∈ tG) := ⟨⟨tGm (i := 57) (by decide +kernel) (by decide +kernel), tGm (i := 759) (by decide +kernel) (by decide +kernel), by decide +kernel, by decide +kernel⟩, tGm (i := 757) (by decide +kernel) (by decide +kernel), tGm (i := 758) (by decide +kernel) (by decide +kernel)⟩
set_option maxRecDepth 100000 in
theorem cc_X6_all : jCl yX6_all cX6_all 3 (some .int) 1 ∧ (Cond.instanceMethod yX6_all ∈ tG ∧ Cond.selects yX6_all.cls yX6_all yX6_all ∈ tG) := ⟨⟨tGm (i := 53) (by decide +kernel) (by decide +kernel), tGm (i := 747) (by decide +kernel) (by decide +kernel), by decide +kernel, by decide +kernel⟩, tGm (i := 745) (by decide +kernel) (by decide +kernel), tGm (i := 746) (by decide +kernel) (by decide +kernel)⟩
set_option maxRecDepth 100000 in
theorem cc_X0_loadAllDay : jCl yX0_loadAllDay cX0_loadAllDay 4 (none) 2 ∧ (Cond.instanceMethod yX0_loadAllDay ∈ tG ∧ Cond.selects yX0_loadAllDay.cls yX0_loadAllDay yX0_loadAllDay ∈ tG) := ⟨⟨tGm (i := 57) (by decide +kernel) (by decide +kernel), tGm (i := 768) (by decide +kernel) (by decide +kernel), by decide +kernel, by decide +kernel⟩, tGm (i := 766) (by decide +kernel) (by decide +kernel), tGm (i := 767) (by decide +kernel) (by decide +kernel)⟩
set_option maxRecDepth 100000 in
theorem cc_X0_runWaits : jCl yX0_runWaits cX0_runWaits 5 (none) 2 ∧ (Cond.instanceMethod yX0_runWaits ∈ tG ∧ Cond.selects yX0_runWaits.cls yX0_runWaits yX0_runWaits ∈ tG) := ⟨⟨tGm (i := 57) (by decide +kernel) (by decide +kernel), tGm (i := 773) (by decide +kernel) (by decide +kernel), by decide +kernel, by decide +kernel⟩, tGm (i := 771) (by decide +kernel) (by decide +kernel), tGm (i := 772) (by decide +kernel) (by decide +kernel)⟩
set_option maxRecDepth 100000 in
theorem cc_X6_ways : jCl yX6_ways cX6_ways 5 (some .int) 1 ∧ (Cond.instanceMethod yX6_ways ∈ tG ∧ Cond.selects yX6_ways.cls yX6_ways yX6_ways ∈ tG) := ⟨⟨tGm (i := 53) (by decide +kernel) (by decide +kernel), tGm (i := 763) (by decide +kernel) (by decide +kernel), by decide +kernel, by decide +kernel⟩, tGm (i := 761) (by decide +kernel) (by decide +kernel), tGm (i := 762) (by decide +kernel) (by decide +kernel)⟩
set_option maxRecDepth 100000 in
theorem cc_X1_copyFrom : jCl yX1_copyFrom cX1_copyFrom 2 (none) 1 ∧ (Cond.instanceMethod yX1_copyFrom ∈ tG ∧ Cond.selects yX1_copyFrom.cls yX1_copyFrom yX1_copyFrom ∈ tG) := ⟨⟨tGm (i := 59) (by decide +kernel) (by decide +kernel), tGm (i := 790) (by decide +kernel) (by decide +kernel), by decide +kernel, by decide +kernel⟩, tGm (i := 788) (by decide +kernel) (by decide +kernel), tGm (i := 789) (by decide +kernel) (by decide +kernel)⟩
set_option maxRecDepth 100000 in
theorem cc_X3_copyFrom : jCl yX3_copyFrom cX3_copyFrom 2 (none) 1 ∧ (Cond.instanceMethod yX3_copyFrom ∈ tG ∧ Cond.selects yX3_copyFrom.cls yX3_copyFrom yX3_copyFrom ∈ tG) := ⟨⟨tGm (i := 58) (by decide +kernel) (by decide +kernel), tGm (i := 794) (by decide +kernel) (by decide +kernel), by decide +kernel, by decide +kernel⟩, tGm (i := 792) (by decide +kernel) (by decide +kernel), tGm (i := 793) (by decide +kernel) (by decide +kernel)⟩
set_option maxRecDepth 100000 in
theorem cc_X0_copyFrom : jCl yX0_copyFrom cX0_copyFrom 3 (none) 1 ∧ (Cond.instanceMethod yX0_copyFrom ∈ tG ∧ Cond.selects yX0_copyFrom.cls yX0_copyFrom yX0_copyFrom ∈ tG) := ⟨⟨tGm (i := 57) (by decide +kernel) (by decide +kernel), tGm (i := 786) (by decide +kernel) (by decide +kernel), by decide +kernel, by decide +kernel⟩, tGm (i := 784) (by decide +kernel) (by decide +kernel), tGm (i := 785) (by decide +kernel) (by decide +kernel)⟩
set_option maxRecDepth 100000 in
theorem cc_X6_seekChange : jCl yX6_seekChange cX6_seekChange 5 (none) 1 ∧ (Cond.instanceMethod yX6_seekChange ∈ tG ∧ Cond.selects yX6_seekChange.cls yX6_seekChange yX6_seekChange ∈ tG) := ⟨⟨tGm (i := 53) (by decide +kernel) (by decide +kernel), tGm (i := 781) (by decide +kernel) (by decide +kernel), by decide +kernel, by decide +kernel⟩, tGm (i := 780) (by decide +kernel) (by decide +kernel), tGm (i := 23) (by decide +kernel) (by decide +kernel)⟩
set_option maxRecDepth 100000 in
theorem cc_X6_best : jCl yX6_best cX6_best 3 (some .int) 2 ∧ (Cond.instanceMethod yX6_best ∈ tG ∧ Cond.selects yX6_best.cls yX6_best yX6_best ∈ tG) := ⟨⟨tGm (i := 53) (by decide +kernel) (by decide +kernel), tGm (i := 777) (by decide +kernel) (by decide +kernel), by decide +kernel, by decide +kernel⟩, tGm (i := 775) (by decide +kernel) (by decide +kernel), tGm (i := 776) (by decide +kernel) (by decide +kernel)⟩
set_option maxRecDepth 100000 in
theorem cc_X0_setPaces : jCl yX0_setPaces cX0_setPaces 3 (none) 1 ∧ (Cond.instanceMethod yX0_setPaces ∈ tG ∧ Cond.selects yX0_setPaces.cls yX0_setPaces yX0_setPaces ∈ tG) := ⟨⟨tGm (i := 57) (by decide +kernel) (by decide +kernel), tGm (i := 803) (by decide +kernel) (by decide +kernel), by decide +kernel, by decide +kernel⟩, tGm (i := 801) (by decide +kernel) (by decide +kernel), tGm (i := 802) (by decide +kernel) (by decide +kernel)⟩
set_option maxRecDepth 100000 in
theorem cc_X6_thrift : jCl yX6_thrift cX6_thrift 6 (some .int) 2 ∧ (Cond.instanceMethod yX6_thrift ∈ tG ∧ Cond.selects yX6_thrift.cls yX6_thrift yX6_thrift ∈ tG) := ⟨⟨tGm (i := 53) (by decide +kernel) (by decide +kernel), tGm (i := 799) (by decide +kernel) (by decide +kernel), by decide +kernel, by decide +kernel⟩, tGm (i := 797) (by decide +kernel) (by decide +kernel), tGm (i := 798) (by decide +kernel) (by decide +kernel)⟩
set_option maxRecDepth 100000 in
theorem cc_X6_costs : jCl yX6_costs cX6_costs 4 (some .int) 1 ∧ (Cond.instanceMethod yX6_costs ∈ tG ∧ Cond.selects yX6_costs.cls yX6_costs yX6_costs ∈ tG) := ⟨⟨tGm (i := 53) (by decide +kernel) (by decide +kernel), tGm (i := 807) (by decide +kernel) (by decide +kernel), by decide +kernel, by decide +kernel⟩, tGm (i := 805) (by decide +kernel) (by decide +kernel), tGm (i := 806) (by decide +kernel) (by decide +kernel)⟩
set_option maxRecDepth 100000 in
theorem cc_X6_waitsByRule : jCl yX6_waitsByRule cX6_waitsByRule 2 (some .int) 1 ∧ (Cond.instanceMethod yX6_waitsByRule ∈ tG ∧ Cond.selects yX6_waitsByRule.cls yX6_waitsByRule yX6_waitsByRule ∈ tG) := ⟨⟨tGm (i := 53) (by decide +kernel) (by decide +kernel), tGm (i := 816) (by decide +kernel) (by decide +kernel), by decide +kernel, by decide +kernel⟩, tGm (i := 815) (by decide +kernel) (by decide +kernel), tGm (i := 24) (by decide +kernel) (by decide +kernel)⟩
set_option maxRecDepth 100000 in
theorem cc_X6_rules : jCl yX6_rules cX6_rules 1 (some .int) 0 ∧ (Cond.instanceMethod yX6_rules ∈ tG ∧ Cond.selects yX6_rules.cls yX6_rules yX6_rules ∈ tG) := ⟨⟨tGm (i := 53) (by decide +kernel) (by decide +kernel), tGm (i := 812) (by decide +kernel) (by decide +kernel), by decide +kernel, by decide +kernel⟩, tGm (i := 810) (by decide +kernel) (by decide +kernel), tGm (i := 811) (by decide +kernel) (by decide +kernel)⟩
set_option maxRecDepth 100000 in
theorem cc_X6_isSheet : jCl yX6_isSheet cX6_isSheet 1 (some .boolean) 1 ∧ Cond.static yX6_isSheet ∈ tG := ⟨⟨tGm (i := 53) (by decide +kernel) (by decide +kernel), tGm (i := 827) (by decide +kernel) (by decide +kernel), by decide +kernel, by decide +kernel⟩, tGm (i := 826) (by decide +kernel) (by decide +kernel)⟩
set_option maxRecDepth 100000 in
theorem cc_X4_holds : jCl yX4_holds cX4_holds 3 (some .boolean) 2 ∧ (Cond.instanceMethod yX4_holds ∈ tG ∧ Cond.selects yX4_holds.cls yX4_holds yX4_holds ∈ tG) := ⟨⟨tGm (i := 62) (by decide +kernel) (by decide +kernel), tGm (i := 831) (by decide +kernel) (by decide +kernel), by decide +kernel, by decide +kernel⟩, tGm (i := 829) (by decide +kernel) (by decide +kernel), tGm (i := 830) (by decide +kernel) (by decide +kernel)⟩
set_option maxRecDepth 100000 in
theorem cc_X6_refuse : jCl yX6_refuse cX6_refuse 6 (some .int) 4 ∧ (Cond.instanceMethod yX6_refuse ∈ tG ∧ Cond.selects yX6_refuse.cls yX6_refuse yX6_refuse ∈ tG) := ⟨⟨tGm (i := 53) (by decide +kernel) (by decide +kernel), tGm (i := 824) (by decide +kernel) (by decide +kernel), by decide +kernel, by decide +kernel⟩, tGm (i := 823) (by decide +kernel) (by decide +kernel), tGm (i := 25) (by decide +kernel) (by decide +kernel)⟩
set_option maxRecDepth 100000 in
theorem cc_X0_keepStanding : jCl yX0_keepStanding cX0_keepStanding 2 (none) 1 ∧ (Cond.instanceMethod yX0_keepStanding ∈ tG ∧ Cond.selects yX0_keepStanding.cls yX0_keepStanding yX0_keepStanding ∈ tG) := ⟨⟨tGm (i := 57) (by decide +kernel) (by decide +kernel), tGm (i := 835) (by decide +kernel) (by decide +kernel), by decide +kernel, by decide +kernel⟩, tGm (i := 833) (by decide +kernel) (by decide +kernel), tGm (i := 834) (by decide +kernel) (by decide +kernel)⟩
set_option maxRecDepth 100000 in
theorem cc_X6_isFilm : jCl yX6_isFilm cX6_isFilm 5 (some .boolean) 4 ∧ Cond.static yX6_isFilm ∈ tG := ⟨⟨tGm (i := 53) (by decide +kernel) (by decide +kernel), tGm (i := 840) (by decide +kernel) (by decide +kernel), by decide +kernel, by decide +kernel⟩, tGm (i := 839) (by decide +kernel) (by decide +kernel)⟩
set_option maxRecDepth 100000 in
theorem cc_X6_stood : jCl yX6_stood cX6_stood 8 (some .int) 4 ∧ (Cond.instanceMethod yX6_stood ∈ tG ∧ Cond.selects yX6_stood.cls yX6_stood yX6_stood ∈ tG) := ⟨⟨tGm (i := 53) (by decide +kernel) (by decide +kernel), tGm (i := 820) (by decide +kernel) (by decide +kernel), by decide +kernel, by decide +kernel⟩, tGm (i := 818) (by decide +kernel) (by decide +kernel), tGm (i := 819) (by decide +kernel) (by decide +kernel)⟩
set_option maxRecDepth 100000 in
theorem cc_X2_copyFrom : jCl yX2_copyFrom cX2_copyFrom 3 (none) 1 ∧ (Cond.instanceMethod yX2_copyFrom ∈ tG ∧ Cond.selects yX2_copyFrom.cls yX2_copyFrom yX2_copyFrom ∈ tG) := ⟨⟨tGm (i := 54) (by decide +kernel) (by decide +kernel), tGm (i := 848) (by decide +kernel) (by decide +kernel), by decide +kernel, by decide +kernel⟩, tGm (i := 846) (by decide +kernel) (by decide +kernel), tGm (i := 847) (by decide +kernel) (by decide +kernel)⟩
set_option maxRecDepth 100000 in
theorem cc_X6_image : jCl yX6_image cX6_image 1 (some .int) 0 ∧ (Cond.instanceMethod yX6_image ∈ tG ∧ Cond.selects yX6_image.cls yX6_image yX6_image ∈ tG) := ⟨⟨tGm (i := 53) (by decide +kernel) (by decide +kernel), tGm (i := 844) (by decide +kernel) (by decide +kernel), by decide +kernel, by decide +kernel⟩, tGm (i := 842) (by decide +kernel) (by decide +kernel), tGm (i := 843) (by decide +kernel) (by decide +kernel)⟩
set_option maxRecDepth 100000 in
theorem cc_X6_restore : jCl yX6_restore cX6_restore 1 (some .int) 0 ∧ (Cond.instanceMethod yX6_restore ∈ tG ∧ Cond.selects yX6_restore.cls yX6_restore yX6_restore ∈ tG) := ⟨⟨tGm (i := 53) (by decide +kernel) (by decide +kernel), tGm (i := 852) (by decide +kernel) (by decide +kernel), by decide +kernel, by decide +kernel⟩, tGm (i := 850) (by decide +kernel) (by decide +kernel), tGm (i := 851) (by decide +kernel) (by decide +kernel)⟩
set_option maxRecDepth 100000 in
theorem cc_X4_put : jCl yX4_put cX4_put 3 (none) 2 ∧ (Cond.instanceMethod yX4_put ∈ tG ∧ Cond.selects yX4_put.cls yX4_put yX4_put ∈ tG) := ⟨⟨tGm (i := 62) (by decide +kernel) (by decide +kernel), tGm (i := 860) (by decide +kernel) (by decide +kernel), by decide +kernel, by decide +kernel⟩, tGm (i := 858) (by decide +kernel) (by decide +kernel), tGm (i := 859) (by decide +kernel) (by decide +kernel)⟩
set_option maxRecDepth 100000 in
theorem cc_X6_film : jCl yX6_film cX6_film 8 (some .int) 4 ∧ (Cond.instanceMethod yX6_film ∈ tG ∧ Cond.selects yX6_film.cls yX6_film yX6_film ∈ tG) := ⟨⟨tGm (i := 53) (by decide +kernel) (by decide +kernel), tGm (i := 856) (by decide +kernel) (by decide +kernel), by decide +kernel, by decide +kernel⟩, tGm (i := 854) (by decide +kernel) (by decide +kernel), tGm (i := 855) (by decide +kernel) (by decide +kernel)⟩
set_option maxRecDepth 100000 in
theorem cc_X4_begin : jCl yX4_begin cX4_begin 3 (none) 2 ∧ (Cond.instanceMethod yX4_begin ∈ tG ∧ Cond.selects yX4_begin.cls yX4_begin yX4_begin ∈ tG) := ⟨⟨tGm (i := 62) (by decide +kernel) (by decide +kernel), tGm (i := 869) (by decide +kernel) (by decide +kernel), by decide +kernel, by decide +kernel⟩, tGm (i := 867) (by decide +kernel) (by decide +kernel), tGm (i := 868) (by decide +kernel) (by decide +kernel)⟩
set_option maxRecDepth 100000 in
theorem cc_X6_sheet : jCl yX6_sheet cX6_sheet 4 (some .int) 3 ∧ (Cond.instanceMethod yX6_sheet ∈ tG ∧ Cond.selects yX6_sheet.cls yX6_sheet yX6_sheet ∈ tG) := ⟨⟨tGm (i := 53) (by decide +kernel) (by decide +kernel), tGm (i := 865) (by decide +kernel) (by decide +kernel), by decide +kernel, by decide +kernel⟩, tGm (i := 863) (by decide +kernel) (by decide +kernel), tGm (i := 864) (by decide +kernel) (by decide +kernel)⟩
set_option maxRecDepth 100000 in
theorem cc_X6_drop : jCl yX6_drop cX6_drop 2 (some .int) 1 ∧ (Cond.instanceMethod yX6_drop ∈ tG ∧ Cond.selects yX6_drop.cls yX6_drop yX6_drop ∈ tG) := ⟨⟨tGm (i := 53) (by decide +kernel) (by decide +kernel), tGm (i := 874) (by decide +kernel) (by decide +kernel), by decide +kernel, by decide +kernel⟩, tGm (i := 872) (by decide +kernel) (by decide +kernel), tGm (i := 873) (by decide +kernel) (by decide +kernel)⟩
set_option maxRecDepth 100000 in
theorem cc_X6_item : jCl yX6_item cX6_item 6 (some .int) 4 ∧ (Cond.instanceMethod yX6_item ∈ tG ∧ Cond.selects yX6_item.cls yX6_item yX6_item ∈ tG) := ⟨⟨tGm (i := 53) (by decide +kernel) (by decide +kernel), tGm (i := 878) (by decide +kernel) (by decide +kernel), by decide +kernel, by decide +kernel⟩, tGm (i := 876) (by decide +kernel) (by decide +kernel), tGm (i := 877) (by decide +kernel) (by decide +kernel)⟩
set_option maxRecDepth 100000 in
theorem cc_X6_copy : jCl yX6_copy cX6_copy 8 (some .int) 5 ∧ (Cond.instanceMethod yX6_copy ∈ tG ∧ Cond.selects yX6_copy.cls yX6_copy yX6_copy ∈ tG) := ⟨⟨tGm (i := 53) (by decide +kernel) (by decide +kernel), tGm (i := 882) (by decide +kernel) (by decide +kernel), by decide +kernel, by decide +kernel⟩, tGm (i := 880) (by decide +kernel) (by decide +kernel), tGm (i := 881) (by decide +kernel) (by decide +kernel)⟩
set_option maxRecDepth 100000 in
theorem cc_X7_in : jCl yX7_in cX7_in 6 (some .boolean) 3 ∧ Cond.static yX7_in ∈ tG := ⟨⟨tGm (i := 63) (by decide +kernel) (by decide +kernel), tGm (i := 1034) (by decide +kernel) (by decide +kernel), by decide +kernel, by decide +kernel⟩, tGm (i := 1033) (by decide +kernel) (by decide +kernel)⟩
set_option maxRecDepth 100000 in
theorem cc_X7_isStair : jCl yX7_isStair cX7_isStair 2 (some .boolean) 1 ∧ (Cond.instanceMethod yX7_isStair ∈ tG ∧ Cond.selects yX7_isStair.cls yX7_isStair yX7_isStair ∈ tG) := ⟨⟨tGm (i := 63) (by decide +kernel) (by decide +kernel), tGm (i := 1043) (by decide +kernel) (by decide +kernel), by decide +kernel, by decide +kernel⟩, tGm (i := 1042) (by decide +kernel) (by decide +kernel), tGm (i := 26) (by decide +kernel) (by decide +kernel)⟩
set_option maxRecDepth 100000 in
theorem cc_X7_isOne : jCl yX7_isOne cX7_isOne 2 (some .boolean) 1 ∧ (Cond.instanceMethod yX7_isOne ∈ tG ∧ Cond.selects yX7_isOne.cls yX7_isOne yX7_isOne ∈ tG) := ⟨⟨tGm (i := 63) (by decide +kernel) (by decide +kernel), tGm (i := 1075) (by decide +kernel) (by decide +kernel), by decide +kernel, by decide +kernel⟩, tGm (i := 1074) (by decide +kernel) (by decide +kernel), tGm (i := 28) (by decide +kernel) (by decide +kernel)⟩
set_option maxRecDepth 100000 in
theorem cc_X7_isOf : jCl yX7_isOf cX7_isOf 2 (some .boolean) 2 ∧ Cond.static yX7_isOf ∈ tG := ⟨⟨tGm (i := 63) (by decide +kernel) (by decide +kernel), tGm (i := 1029) (by decide +kernel) (by decide +kernel), by decide +kernel, by decide +kernel⟩, tGm (i := 1028) (by decide +kernel) (by decide +kernel)⟩
set_option maxRecDepth 100000 in
theorem cc_X7_stair : jCl yX7_stair cX7_stair 3 (some .int) 2 ∧ (Cond.instanceMethod yX7_stair ∈ tG ∧ Cond.selects yX7_stair.cls yX7_stair yX7_stair ∈ tG) := ⟨⟨tGm (i := 63) (by decide +kernel) (by decide +kernel), tGm (i := 1026) (by decide +kernel) (by decide +kernel), by decide +kernel, by decide +kernel⟩, tGm (i := 1024) (by decide +kernel) (by decide +kernel), tGm (i := 1025) (by decide +kernel) (by decide +kernel)⟩
set_option maxRecDepth 100000 in
theorem cc_X7_of : jCl yX7_of cX7_of 5 (some .int) 3 ∧ (Cond.instanceMethod yX7_of ∈ tG ∧ Cond.selects yX7_of.cls yX7_of yX7_of ∈ tG) := ⟨⟨tGm (i := 63) (by decide +kernel) (by decide +kernel), tGm (i := 1039) (by decide +kernel) (by decide +kernel), by decide +kernel, by decide +kernel⟩, tGm (i := 1037) (by decide +kernel) (by decide +kernel), tGm (i := 1038) (by decide +kernel) (by decide +kernel)⟩
set_option maxRecDepth 100000 in
theorem cc_X7_isSet : jCl yX7_isSet cX7_isSet 2 (some .boolean) 2 ∧ Cond.static yX7_isSet ∈ tG := ⟨⟨tGm (i := 63) (by decide +kernel) (by decide +kernel), tGm (i := 1050) (by decide +kernel) (by decide +kernel), by decide +kernel, by decide +kernel⟩, tGm (i := 1049) (by decide +kernel) (by decide +kernel)⟩
set_option maxRecDepth 100000 in
theorem cc_X7_set : jCl yX7_set cX7_set 4 (some .int) 2 ∧ (Cond.instanceMethod yX7_set ∈ tG ∧ Cond.selects yX7_set.cls yX7_set yX7_set ∈ tG) := ⟨⟨tGm (i := 63) (by decide +kernel) (by decide +kernel), tGm (i := 1047) (by decide +kernel) (by decide +kernel), by decide +kernel, by decide +kernel⟩, tGm (i := 1045) (by decide +kernel) (by decide +kernel), tGm (i := 1046) (by decide +kernel) (by decide +kernel)⟩
set_option maxRecDepth 100000 in
theorem cc_X7_change : jCl yX7_change cX7_change 4 (some .int) 2 ∧ (Cond.instanceMethod yX7_change ∈ tG ∧ Cond.selects yX7_change.cls yX7_change yX7_change ∈ tG) := ⟨⟨tGm (i := 63) (by decide +kernel) (by decide +kernel), tGm (i := 1056) (by decide +kernel) (by decide +kernel), by decide +kernel, by decide +kernel⟩, tGm (i := 1054) (by decide +kernel) (by decide +kernel), tGm (i := 1055) (by decide +kernel) (by decide +kernel)⟩
set_option maxRecDepth 100000 in
theorem cc_X7_comes : jCl yX7_comes cX7_comes 4 (some .int) 3 ∧ (Cond.instanceMethod yX7_comes ∈ tG ∧ Cond.selects yX7_comes.cls yX7_comes yX7_comes ∈ tG) := ⟨⟨tGm (i := 63) (by decide +kernel) (by decide +kernel), tGm (i := 1067) (by decide +kernel) (by decide +kernel), by decide +kernel, by decide +kernel⟩, tGm (i := 1066) (by decide +kernel) (by decide +kernel), tGm (i := 27) (by decide +kernel) (by decide +kernel)⟩
set_option maxRecDepth 100000 in
theorem cc_X7_person : jCl yX7_person cX7_person 4 (some .int) 3 ∧ (Cond.instanceMethod yX7_person ∈ tG ∧ Cond.selects yX7_person.cls yX7_person yX7_person ∈ tG) := ⟨⟨tGm (i := 63) (by decide +kernel) (by decide +kernel), tGm (i := 1062) (by decide +kernel) (by decide +kernel), by decide +kernel, by decide +kernel⟩, tGm (i := 1060) (by decide +kernel) (by decide +kernel), tGm (i := 1061) (by decide +kernel) (by decide +kernel)⟩
set_option maxRecDepth 100000 in
theorem cc_X7_weightOf : jCl yX7_weightOf cX7_weightOf 1 (some .int) 1 ∧ Cond.static yX7_weightOf ∈ tG := ⟨⟨tGm (i := 63) (by decide +kernel) (by decide +kernel), tGm (i := 1078) (by decide +kernel) (by decide +kernel), by decide +kernel, by decide +kernel⟩, tGm (i := 1077) (by decide +kernel) (by decide +kernel)⟩
set_option maxRecDepth 100000 in
theorem cc_X7_told : jCl yX7_told cX7_told 3 (some .int) 2 ∧ (Cond.instanceMethod yX7_told ∈ tG ∧ Cond.selects yX7_told.cls yX7_told yX7_told ∈ tG) := ⟨⟨tGm (i := 63) (by decide +kernel) (by decide +kernel), tGm (i := 1071) (by decide +kernel) (by decide +kernel), by decide +kernel, by decide +kernel⟩, tGm (i := 1069) (by decide +kernel) (by decide +kernel), tGm (i := 1070) (by decide +kernel) (by decide +kernel)⟩
set_option maxRecDepth 100000 in
theorem cc_X7_strike : jCl yX7_strike cX7_strike 3 (some .int) 1 ∧ (Cond.instanceMethod yX7_strike ∈ tG ∧ Cond.selects yX7_strike.cls yX7_strike yX7_strike ∈ tG) := ⟨⟨tGm (i := 63) (by decide +kernel) (by decide +kernel), tGm (i := 1082) (by decide +kernel) (by decide +kernel), by decide +kernel, by decide +kernel⟩, tGm (i := 1080) (by decide +kernel) (by decide +kernel), tGm (i := 1081) (by decide +kernel) (by decide +kernel)⟩
set_option maxRecDepth 100000 in
theorem cc_X7_type : jCl yX7_type cX7_type 5 (some .int) 2 ∧ (Cond.instanceMethod yX7_type ∈ tG ∧ Cond.selects yX7_type.cls yX7_type yX7_type ∈ tG) := ⟨⟨tGm (i := 63) (by decide +kernel) (by decide +kernel), tGm (i := 1086) (by decide +kernel) (by decide +kernel), by decide +kernel, by decide +kernel⟩, tGm (i := 1084) (by decide +kernel) (by decide +kernel), tGm (i := 1085) (by decide +kernel) (by decide +kernel)⟩
set_option maxRecDepth 100000 in
theorem cc_X7_here : jCl yX7_here cX7_here 1 (some .int) 0 ∧ (Cond.instanceMethod yX7_here ∈ tG ∧ Cond.selects yX7_here.cls yX7_here yX7_here ∈ tG) := ⟨⟨tGm (i := 63) (by decide +kernel) (by decide +kernel), tGm (i := 1102) (by decide +kernel) (by decide +kernel), by decide +kernel, by decide +kernel⟩, tGm (i := 1101) (by decide +kernel) (by decide +kernel), tGm (i := 30) (by decide +kernel) (by decide +kernel)⟩
set_option maxRecDepth 100000 in
theorem cc_X7_number : jCl yX7_number cX7_number 4 (some .int) 1 ∧ (Cond.instanceMethod yX7_number ∈ tG ∧ Cond.selects yX7_number.cls yX7_number yX7_number ∈ tG) := ⟨⟨tGm (i := 63) (by decide +kernel) (by decide +kernel), tGm (i := 1098) (by decide +kernel) (by decide +kernel), by decide +kernel, by decide +kernel⟩, tGm (i := 1097) (by decide +kernel) (by decide +kernel), tGm (i := 29) (by decide +kernel) (by decide +kernel)⟩
set_option maxRecDepth 100000 in
theorem cc_X7_letter : jCl yX7_letter cX7_letter 8 (some .int) 5 ∧ (Cond.instanceMethod yX7_letter ∈ tG ∧ Cond.selects yX7_letter.cls yX7_letter yX7_letter ∈ tG) := ⟨⟨tGm (i := 63) (by decide +kernel) (by decide +kernel), tGm (i := 1108) (by decide +kernel) (by decide +kernel), by decide +kernel, by decide +kernel⟩, tGm (i := 1107) (by decide +kernel) (by decide +kernel), tGm (i := 31) (by decide +kernel) (by decide +kernel)⟩
set_option maxRecDepth 100000 in
theorem cc_X7_people : jCl yX7_people cX7_people 4 (some .int) 0 ∧ (Cond.instanceMethod yX7_people ∈ tG ∧ Cond.selects yX7_people.cls yX7_people yX7_people ∈ tG) := ⟨⟨tGm (i := 63) (by decide +kernel) (by decide +kernel), tGm (i := 1094) (by decide +kernel) (by decide +kernel), by decide +kernel, by decide +kernel⟩, tGm (i := 1092) (by decide +kernel) (by decide +kernel), tGm (i := 1093) (by decide +kernel) (by decide +kernel)⟩
set_option maxRecDepth 100000 in
theorem cc_X7_count : jCl yX7_count cX7_count 4 (some .int) 1 ∧ (Cond.instanceMethod yX7_count ∈ tG ∧ Cond.selects yX7_count.cls yX7_count yX7_count ∈ tG) := ⟨⟨tGm (i := 63) (by decide +kernel) (by decide +kernel), tGm (i := 1112) (by decide +kernel) (by decide +kernel), by decide +kernel, by decide +kernel⟩, tGm (i := 1110) (by decide +kernel) (by decide +kernel), tGm (i := 1111) (by decide +kernel) (by decide +kernel)⟩
set_option maxRecDepth 100000 in
theorem cc_X7_asTold : jCl yX7_asTold cX7_asTold 3 (none) 0 ∧ (Cond.instanceMethod yX7_asTold ∈ tG ∧ Cond.selects yX7_asTold.cls yX7_asTold yX7_asTold ∈ tG) := ⟨⟨tGm (i := 63) (by decide +kernel) (by decide +kernel), tGm (i := 1120) (by decide +kernel) (by decide +kernel), by decide +kernel, by decide +kernel⟩, tGm (i := 1119) (by decide +kernel) (by decide +kernel), tGm (i := 32) (by decide +kernel) (by decide +kernel)⟩
set_option maxRecDepth 100000 in
theorem cc_X7_isOn : jCl yX7_isOn cX7_isOn 3 (some .boolean) 2 ∧ (Cond.instanceMethod yX7_isOn ∈ tG ∧ Cond.selects yX7_isOn.cls yX7_isOn yX7_isOn ∈ tG) := ⟨⟨tGm (i := 63) (by decide +kernel) (by decide +kernel), tGm (i := 1136) (by decide +kernel) (by decide +kernel), by decide +kernel, by decide +kernel⟩, tGm (i := 1135) (by decide +kernel) (by decide +kernel), tGm (i := 36) (by decide +kernel) (by decide +kernel)⟩
set_option maxRecDepth 100000 in
theorem cc_X7_who : jCl yX7_who cX7_who 7 (some .int) 3 ∧ (Cond.instanceMethod yX7_who ∈ tG ∧ Cond.selects yX7_who.cls yX7_who yX7_who ∈ tG) := ⟨⟨tGm (i := 63) (by decide +kernel) (by decide +kernel), tGm (i := 1152) (by decide +kernel) (by decide +kernel), by decide +kernel, by decide +kernel⟩, tGm (i := 1151) (by decide +kernel) (by decide +kernel), tGm (i := 40) (by decide +kernel) (by decide +kernel)⟩
set_option maxRecDepth 100000 in
theorem cc_X7_weight : jCl yX7_weight cX7_weight 4 (some .int) 1 ∧ (Cond.instanceMethod yX7_weight ∈ tG ∧ Cond.selects yX7_weight.cls yX7_weight yX7_weight ∈ tG) := ⟨⟨tGm (i := 63) (by decide +kernel) (by decide +kernel), tGm (i := 1172) (by decide +kernel) (by decide +kernel), by decide +kernel, by decide +kernel⟩, tGm (i := 1171) (by decide +kernel) (by decide +kernel), tGm (i := 45) (by decide +kernel) (by decide +kernel)⟩
set_option maxRecDepth 100000 in
theorem cc_X7_goes : jCl yX7_goes cX7_goes 2 (some .boolean) 1 ∧ (Cond.instanceMethod yX7_goes ∈ tG ∧ Cond.selects yX7_goes.cls yX7_goes yX7_goes ∈ tG) := ⟨⟨tGm (i := 63) (by decide +kernel) (by decide +kernel), tGm (i := 1140) (by decide +kernel) (by decide +kernel), by decide +kernel, by decide +kernel⟩, tGm (i := 1139) (by decide +kernel) (by decide +kernel), tGm (i := 37) (by decide +kernel) (by decide +kernel)⟩
set_option maxRecDepth 100000 in
theorem cc_X7_changes : jCl yX7_changes cX7_changes 5 (none) 1 ∧ (Cond.instanceMethod yX7_changes ∈ tG ∧ Cond.selects yX7_changes.cls yX7_changes yX7_changes ∈ tG) := ⟨⟨tGm (i := 63) (by decide +kernel) (by decide +kernel), tGm (i := 1132) (by decide +kernel) (by decide +kernel), by decide +kernel, by decide +kernel⟩, tGm (i := 1131) (by decide +kernel) (by decide +kernel), tGm (i := 35) (by decide +kernel) (by decide +kernel)⟩
set_option maxRecDepth 100000 in
theorem cc_X7_goesOne : jCl yX7_goesOne cX7_goesOne 8 (some .boolean) 2 ∧ (Cond.instanceMethod yX7_goesOne ∈ tG ∧ Cond.selects yX7_goesOne.cls yX7_goesOne yX7_goesOne ∈ tG) := ⟨⟨tGm (i := 63) (by decide +kernel) (by decide +kernel), tGm (i := 1144) (by decide +kernel) (by decide +kernel), by decide +kernel, by decide +kernel⟩, tGm (i := 1143) (by decide +kernel) (by decide +kernel), tGm (i := 38) (by decide +kernel) (by decide +kernel)⟩
set_option maxRecDepth 100000 in
theorem cc_X7_walks : jCl yX7_walks cX7_walks 4 (none) 1 ∧ (Cond.instanceMethod yX7_walks ∈ tG ∧ Cond.selects yX7_walks.cls yX7_walks yX7_walks ∈ tG) := ⟨⟨tGm (i := 63) (by decide +kernel) (by decide +kernel), tGm (i := 1148) (by decide +kernel) (by decide +kernel), by decide +kernel, by decide +kernel⟩, tGm (i := 1147) (by decide +kernel) (by decide +kernel), tGm (i := 39) (by decide +kernel) (by decide +kernel)⟩
set_option maxRecDepth 100000 in
theorem cc_X7_leaves : jCl yX7_leaves cX7_leaves 7 (none) 1 ∧ (Cond.instanceMethod yX7_leaves ∈ tG ∧ Cond.selects yX7_leaves.cls yX7_leaves yX7_leaves ∈ tG) := ⟨⟨tGm (i := 63) (by decide +kernel) (by decide +kernel), tGm (i := 1156) (by decide +kernel) (by decide +kernel), by decide +kernel, by decide +kernel⟩, tGm (i := 1155) (by decide +kernel) (by decide +kernel), tGm (i := 41) (by decide +kernel) (by decide +kernel)⟩
set_option maxRecDepth 100000 in
theorem cc_X7_may : jCl yX7_may cX7_may 8 (some .boolean) 3 ∧ (Cond.instanceMethod yX7_may ∈ tG ∧ Cond.selects yX7_may.cls yX7_may yX7_may ∈ tG) := ⟨⟨tGm (i := 63) (by decide +kernel) (by decide +kernel), tGm (i := 1164) (by decide +kernel) (by decide +kernel), by decide +kernel, by decide +kernel⟩, tGm (i := 1163) (by decide +kernel) (by decide +kernel), tGm (i := 43) (by decide +kernel) (by decide +kernel)⟩
set_option maxRecDepth 100000 in
theorem cc_X7_stepsOn : jCl yX7_stepsOn cX7_stepsOn 8 (none) 2 ∧ (Cond.instanceMethod yX7_stepsOn ∈ tG ∧ Cond.selects yX7_stepsOn.cls yX7_stepsOn yX7_stepsOn ∈ tG) := ⟨⟨tGm (i := 63) (by decide +kernel) (by decide +kernel), tGm (i := 1160) (by decide +kernel) (by decide +kernel), by decide +kernel, by decide +kernel⟩, tGm (i := 1159) (by decide +kernel) (by decide +kernel), tGm (i := 42) (by decide +kernel) (by decide +kernel)⟩
set_option maxRecDepth 100000 in
theorem cc_X7_loads : jCl yX7_loads cX7_loads 5 (none) 1 ∧ (Cond.instanceMethod yX7_loads ∈ tG ∧ Cond.selects yX7_loads.cls yX7_loads yX7_loads ∈ tG) := ⟨⟨tGm (i := 63) (by decide +kernel) (by decide +kernel), tGm (i := 1168) (by decide +kernel) (by decide +kernel), by decide +kernel, by decide +kernel⟩, tGm (i := 1167) (by decide +kernel) (by decide +kernel), tGm (i := 44) (by decide +kernel) (by decide +kernel)⟩
set_option maxRecDepth 100000 in
theorem cc_X7_notes : jCl yX7_notes cX7_notes 6 (none) 1 ∧ (Cond.instanceMethod yX7_notes ∈ tG ∧ Cond.selects yX7_notes.cls yX7_notes yX7_notes ∈ tG) := ⟨⟨tGm (i := 63) (by decide +kernel) (by decide +kernel), tGm (i := 1176) (by decide +kernel) (by decide +kernel), by decide +kernel, by decide +kernel⟩, tGm (i := 1175) (by decide +kernel) (by decide +kernel), tGm (i := 46) (by decide +kernel) (by decide +kernel)⟩
set_option maxRecDepth 100000 in
theorem cc_X7_begins : jCl yX7_begins cX7_begins 2 (none) 0 ∧ (Cond.instanceMethod yX7_begins ∈ tG ∧ Cond.selects yX7_begins.cls yX7_begins yX7_begins ∈ tG) := ⟨⟨tGm (i := 63) (by decide +kernel) (by decide +kernel), tGm (i := 1128) (by decide +kernel) (by decide +kernel), by decide +kernel, by decide +kernel⟩, tGm (i := 1127) (by decide +kernel) (by decide +kernel), tGm (i := 34) (by decide +kernel) (by decide +kernel)⟩
set_option maxRecDepth 100000 in
theorem cc_X7_runs : jCl yX7_runs cX7_runs 5 (none) 0 ∧ (Cond.instanceMethod yX7_runs ∈ tG ∧ Cond.selects yX7_runs.cls yX7_runs yX7_runs ∈ tG) := ⟨⟨tGm (i := 63) (by decide +kernel) (by decide +kernel), tGm (i := 1124) (by decide +kernel) (by decide +kernel), by decide +kernel, by decide +kernel⟩, tGm (i := 1123) (by decide +kernel) (by decide +kernel), tGm (i := 33) (by decide +kernel) (by decide +kernel)⟩
set_option maxRecDepth 100000 in
theorem cc_X7_waits : jCl yX7_waits cX7_waits 3 (some .int) 0 ∧ (Cond.instanceMethod yX7_waits ∈ tG ∧ Cond.selects yX7_waits.cls yX7_waits yX7_waits ∈ tG) := ⟨⟨tGm (i := 63) (by decide +kernel) (by decide +kernel), tGm (i := 1193) (by decide +kernel) (by decide +kernel), by decide +kernel, by decide +kernel⟩, tGm (i := 1192) (by decide +kernel) (by decide +kernel), tGm (i := 47) (by decide +kernel) (by decide +kernel)⟩
set_option maxRecDepth 100000 in
theorem cc_X7_last : jCl yX7_last cX7_last 4 (some .int) 0 ∧ (Cond.instanceMethod yX7_last ∈ tG ∧ Cond.selects yX7_last.cls yX7_last yX7_last ∈ tG) := ⟨⟨tGm (i := 63) (by decide +kernel) (by decide +kernel), tGm (i := 1201) (by decide +kernel) (by decide +kernel), by decide +kernel, by decide +kernel⟩, tGm (i := 1200) (by decide +kernel) (by decide +kernel), tGm (i := 49) (by decide +kernel) (by decide +kernel)⟩
set_option maxRecDepth 100000 in
theorem cc_X7_throughBy : jCl yX7_throughBy cX7_throughBy 4 (some .int) 1 ∧ (Cond.instanceMethod yX7_throughBy ∈ tG ∧ Cond.selects yX7_throughBy.cls yX7_throughBy yX7_throughBy ∈ tG) := ⟨⟨tGm (i := 63) (by decide +kernel) (by decide +kernel), tGm (i := 1197) (by decide +kernel) (by decide +kernel), by decide +kernel, by decide +kernel⟩, tGm (i := 1196) (by decide +kernel) (by decide +kernel), tGm (i := 48) (by decide +kernel) (by decide +kernel)⟩
set_option maxRecDepth 100000 in
theorem cc_X7_fate : jCl yX7_fate cX7_fate 3 (some .int) 2 ∧ (Cond.instanceMethod yX7_fate ∈ tG ∧ Cond.selects yX7_fate.cls yX7_fate yX7_fate ∈ tG) := ⟨⟨tGm (i := 63) (by decide +kernel) (by decide +kernel), tGm (i := 1116) (by decide +kernel) (by decide +kernel), by decide +kernel, by decide +kernel⟩, tGm (i := 1114) (by decide +kernel) (by decide +kernel), tGm (i := 1115) (by decide +kernel) (by decide +kernel)⟩
set_option maxRecDepth 100000 in
theorem cc_X7_at : jCl yX7_at cX7_at 3 (some .int) 2 ∧ (Cond.instanceMethod yX7_at ∈ tG ∧ Cond.selects yX7_at.cls yX7_at yX7_at ∈ tG) := ⟨⟨tGm (i := 63) (by decide +kernel) (by decide +kernel), tGm (i := 1180) (by decide +kernel) (by decide +kernel), by decide +kernel, by decide +kernel⟩, tGm (i := 1178) (by decide +kernel) (by decide +kernel), tGm (i := 1179) (by decide +kernel) (by decide +kernel)⟩
set_option maxRecDepth 100000 in
theorem cc_X7_on : jCl yX7_on cX7_on 6 (some .int) 4 ∧ (Cond.instanceMethod yX7_on ∈ tG ∧ Cond.selects yX7_on.cls yX7_on yX7_on ∈ tG) := ⟨⟨tGm (i := 63) (by decide +kernel) (by decide +kernel), tGm (i := 1184) (by decide +kernel) (by decide +kernel), by decide +kernel, by decide +kernel⟩, tGm (i := 1182) (by decide +kernel) (by decide +kernel), tGm (i := 1183) (by decide +kernel) (by decide +kernel)⟩
set_option maxRecDepth 100000 in
theorem cc_X7_all : jCl yX7_all cX7_all 2 (some .int) 1 ∧ (Cond.instanceMethod yX7_all ∈ tG ∧ Cond.selects yX7_all.cls yX7_all yX7_all ∈ tG) := ⟨⟨tGm (i := 63) (by decide +kernel) (by decide +kernel), tGm (i := 1188) (by decide +kernel) (by decide +kernel), by decide +kernel, by decide +kernel⟩, tGm (i := 1186) (by decide +kernel) (by decide +kernel), tGm (i := 1187) (by decide +kernel) (by decide +kernel)⟩
set_option maxRecDepth 100000 in
theorem cc_X7_lays : jCl yX7_lays cX7_lays 4 (none) 2 ∧ Cond.static yX7_lays ∈ tG := ⟨⟨tGm (i := 63) (by decide +kernel) (by decide +kernel), tGm (i := 1212) (by decide +kernel) (by decide +kernel), by decide +kernel, by decide +kernel⟩, tGm (i := 1211) (by decide +kernel) (by decide +kernel)⟩
set_option maxRecDepth 100000 in
theorem cc_X7_waysMany : jCl yX7_waysMany cX7_waysMany 1 (some .int) 0 ∧ (Cond.instanceMethod yX7_waysMany ∈ tG ∧ Cond.selects yX7_waysMany.cls yX7_waysMany yX7_waysMany ∈ tG) := ⟨⟨tGm (i := 63) (by decide +kernel) (by decide +kernel), tGm (i := 1209) (by decide +kernel) (by decide +kernel), by decide +kernel, by decide +kernel⟩, tGm (i := 1208) (by decide +kernel) (by decide +kernel), tGm (i := 50) (by decide +kernel) (by decide +kernel)⟩
set_option maxRecDepth 100000 in
theorem cc_X7_ways : jCl yX7_ways cX7_ways 7 (some .int) 1 ∧ (Cond.instanceMethod yX7_ways ∈ tG ∧ Cond.selects yX7_ways.cls yX7_ways yX7_ways ∈ tG) := ⟨⟨tGm (i := 63) (by decide +kernel) (by decide +kernel), tGm (i := 1205) (by decide +kernel) (by decide +kernel), by decide +kernel, by decide +kernel⟩, tGm (i := 1203) (by decide +kernel) (by decide +kernel), tGm (i := 1204) (by decide +kernel) (by decide +kernel)⟩
set_option maxRecDepth 100000 in
theorem cc_X7_best : jCl yX7_best cX7_best 9 (some .int) 2 ∧ (Cond.instanceMethod yX7_best ∈ tG ∧ Cond.selects yX7_best.cls yX7_best yX7_best ∈ tG) := ⟨⟨tGm (i := 63) (by decide +kernel) (by decide +kernel), tGm (i := 1216) (by decide +kernel) (by decide +kernel), by decide +kernel, by decide +kernel⟩, tGm (i := 1214) (by decide +kernel) (by decide +kernel), tGm (i := 1215) (by decide +kernel) (by decide +kernel)⟩
set_option maxRecDepth 100000 in
theorem cc_X7_thrift : jCl yX7_thrift cX7_thrift 7 (some .int) 2 ∧ (Cond.instanceMethod yX7_thrift ∈ tG ∧ Cond.selects yX7_thrift.cls yX7_thrift yX7_thrift ∈ tG) := ⟨⟨tGm (i := 63) (by decide +kernel) (by decide +kernel), tGm (i := 1220) (by decide +kernel) (by decide +kernel), by decide +kernel, by decide +kernel⟩, tGm (i := 1218) (by decide +kernel) (by decide +kernel), tGm (i := 1219) (by decide +kernel) (by decide +kernel)⟩
set_option maxRecDepth 100000 in
theorem cc_X7_costs : jCl yX7_costs cX7_costs 3 (some .int) 1 ∧ (Cond.instanceMethod yX7_costs ∈ tG ∧ Cond.selects yX7_costs.cls yX7_costs yX7_costs ∈ tG) := ⟨⟨tGm (i := 63) (by decide +kernel) (by decide +kernel), tGm (i := 1224) (by decide +kernel) (by decide +kernel), by decide +kernel, by decide +kernel⟩, tGm (i := 1222) (by decide +kernel) (by decide +kernel), tGm (i := 1223) (by decide +kernel) (by decide +kernel)⟩
set_option maxRecDepth 100000 in
theorem cc_X7_rules : jCl yX7_rules cX7_rules 2 (some .int) 0 ∧ (Cond.instanceMethod yX7_rules ∈ tG ∧ Cond.selects yX7_rules.cls yX7_rules yX7_rules ∈ tG) := ⟨⟨tGm (i := 63) (by decide +kernel) (by decide +kernel), tGm (i := 1229) (by decide +kernel) (by decide +kernel), by decide +kernel, by decide +kernel⟩, tGm (i := 1227) (by decide +kernel) (by decide +kernel), tGm (i := 1228) (by decide +kernel) (by decide +kernel)⟩
set_option maxRecDepth 100000 in
theorem cc_X7_isSheet : jCl yX7_isSheet cX7_isSheet 1 (some .boolean) 1 ∧ Cond.static yX7_isSheet ∈ tG := ⟨⟨tGm (i := 63) (by decide +kernel) (by decide +kernel), tGm (i := 1236) (by decide +kernel) (by decide +kernel), by decide +kernel, by decide +kernel⟩, tGm (i := 1235) (by decide +kernel) (by decide +kernel)⟩
set_option maxRecDepth 100000 in
theorem cc_X7_isLane : jCl yX7_isLane cX7_isLane 1 (some .boolean) 1 ∧ Cond.static yX7_isLane ∈ tG := ⟨⟨tGm (i := 63) (by decide +kernel) (by decide +kernel), tGm (i := 1239) (by decide +kernel) (by decide +kernel), by decide +kernel, by decide +kernel⟩, tGm (i := 1238) (by decide +kernel) (by decide +kernel)⟩
set_option maxRecDepth 100000 in
theorem cc_X7_finds : jCl yX7_finds cX7_finds 5 (some .int) 4 ∧ (Cond.instanceMethod yX7_finds ∈ tG ∧ Cond.selects yX7_finds.cls yX7_finds yX7_finds ∈ tG) := ⟨⟨tGm (i := 63) (by decide +kernel) (by decide +kernel), tGm (i := 1243) (by decide +kernel) (by decide +kernel), by decide +kernel, by decide +kernel⟩, tGm (i := 1242) (by decide +kernel) (by decide +kernel), tGm (i := 51) (by decide +kernel) (by decide +kernel)⟩
set_option maxRecDepth 100000 in
theorem cc_X7_stood : jCl yX7_stood cX7_stood 10 (some .int) 4 ∧ (Cond.instanceMethod yX7_stood ∈ tG ∧ Cond.selects yX7_stood.cls yX7_stood yX7_stood ∈ tG) := ⟨⟨tGm (i := 63) (by decide +kernel) (by decide +kernel), tGm (i := 1233) (by decide +kernel) (by decide +kernel), by decide +kernel, by decide +kernel⟩, tGm (i := 1231) (by decide +kernel) (by decide +kernel), tGm (i := 1232) (by decide +kernel) (by decide +kernel)⟩
set_option maxRecDepth 100000 in
theorem cc_X7_saves : jCl yX7_saves cX7_saves 4 (some .int) 3 ∧ Cond.static yX7_saves ∈ tG := ⟨⟨tGm (i := 63) (by decide +kernel) (by decide +kernel), tGm (i := 1250) (by decide +kernel) (by decide +kernel), by decide +kernel, by decide +kernel⟩, tGm (i := 1249) (by decide +kernel) (by decide +kernel)⟩
set_option maxRecDepth 100000 in
theorem cc_X7_gives : jCl yX7_gives cX7_gives 4 (some .int) 3 ∧ Cond.static yX7_gives ∈ tG := ⟨⟨tGm (i := 63) (by decide +kernel) (by decide +kernel), tGm (i := 1257) (by decide +kernel) (by decide +kernel), by decide +kernel, by decide +kernel⟩, tGm (i := 1256) (by decide +kernel) (by decide +kernel)⟩
set_option maxRecDepth 100000 in
theorem cc_X7_image : jCl yX7_image cX7_image 2 (some .int) 0 ∧ (Cond.instanceMethod yX7_image ∈ tG ∧ Cond.selects yX7_image.cls yX7_image yX7_image ∈ tG) := ⟨⟨tGm (i := 63) (by decide +kernel) (by decide +kernel), tGm (i := 1247) (by decide +kernel) (by decide +kernel), by decide +kernel, by decide +kernel⟩, tGm (i := 1245) (by decide +kernel) (by decide +kernel), tGm (i := 1246) (by decide +kernel) (by decide +kernel)⟩
set_option maxRecDepth 100000 in
theorem cc_X7_restore : jCl yX7_restore cX7_restore 2 (some .int) 0 ∧ (Cond.instanceMethod yX7_restore ∈ tG ∧ Cond.selects yX7_restore.cls yX7_restore yX7_restore ∈ tG) := ⟨⟨tGm (i := 63) (by decide +kernel) (by decide +kernel), tGm (i := 1254) (by decide +kernel) (by decide +kernel), by decide +kernel, by decide +kernel⟩, tGm (i := 1252) (by decide +kernel) (by decide +kernel), tGm (i := 1253) (by decide +kernel) (by decide +kernel)⟩
set_option maxRecDepth 100000 in
theorem cc_X7_film : jCl yX7_film cX7_film 7 (some .int) 4 ∧ (Cond.instanceMethod yX7_film ∈ tG ∧ Cond.selects yX7_film.cls yX7_film yX7_film ∈ tG) := ⟨⟨tGm (i := 63) (by decide +kernel) (by decide +kernel), tGm (i := 1261) (by decide +kernel) (by decide +kernel), by decide +kernel, by decide +kernel⟩, tGm (i := 1259) (by decide +kernel) (by decide +kernel), tGm (i := 1260) (by decide +kernel) (by decide +kernel)⟩
set_option maxRecDepth 100000 in
theorem cc_X7_sheet : jCl yX7_sheet cX7_sheet 5 (some .int) 3 ∧ (Cond.instanceMethod yX7_sheet ∈ tG ∧ Cond.selects yX7_sheet.cls yX7_sheet yX7_sheet ∈ tG) := ⟨⟨tGm (i := 63) (by decide +kernel) (by decide +kernel), tGm (i := 1265) (by decide +kernel) (by decide +kernel), by decide +kernel, by decide +kernel⟩, tGm (i := 1263) (by decide +kernel) (by decide +kernel), tGm (i := 1264) (by decide +kernel) (by decide +kernel)⟩
set_option maxRecDepth 100000 in
theorem cc_X7_drop : jCl yX7_drop cX7_drop 2 (some .int) 1 ∧ (Cond.instanceMethod yX7_drop ∈ tG ∧ Cond.selects yX7_drop.cls yX7_drop yX7_drop ∈ tG) := ⟨⟨tGm (i := 63) (by decide +kernel) (by decide +kernel), tGm (i := 1269) (by decide +kernel) (by decide +kernel), by decide +kernel, by decide +kernel⟩, tGm (i := 1267) (by decide +kernel) (by decide +kernel), tGm (i := 1268) (by decide +kernel) (by decide +kernel)⟩
set_option maxRecDepth 100000 in
theorem cc_X7_item : jCl yX7_item cX7_item 6 (some .int) 4 ∧ (Cond.instanceMethod yX7_item ∈ tG ∧ Cond.selects yX7_item.cls yX7_item yX7_item ∈ tG) := ⟨⟨tGm (i := 63) (by decide +kernel) (by decide +kernel), tGm (i := 1273) (by decide +kernel) (by decide +kernel), by decide +kernel, by decide +kernel⟩, tGm (i := 1271) (by decide +kernel) (by decide +kernel), tGm (i := 1272) (by decide +kernel) (by decide +kernel)⟩
set_option maxRecDepth 100000 in
theorem cc_X7_copy : jCl yX7_copy cX7_copy 7 (some .int) 5 ∧ (Cond.instanceMethod yX7_copy ∈ tG ∧ Cond.selects yX7_copy.cls yX7_copy yX7_copy ∈ tG) := ⟨⟨tGm (i := 63) (by decide +kernel) (by decide +kernel), tGm (i := 1277) (by decide +kernel) (by decide +kernel), by decide +kernel, by decide +kernel⟩, tGm (i := 1275) (by decide +kernel) (by decide +kernel), tGm (i := 1276) (by decide +kernel) (by decide +kernel)⟩
set_option maxRecDepth 100000 in
theorem cc_J_fill : jCl yJ7_fill_53178 cJ7_fill_53178 4 none 2 ∧ Cond.static yJ7_fill_53178 ∈ tG := ⟨⟨tGm (i := 61) (by decide +kernel) (by decide +kernel), tGm (i := 253) (by decide +kernel) (by decide +kernel), by decide +kernel, by decide +kernel⟩, tGm (i := 252) (by decide +kernel) (by decide +kernel)⟩
