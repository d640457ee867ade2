theorem dX7_in_0 : decode cX7_in 0 = .ok (.lload_n 0, 1) := by decide +kernel
theorem dX7_in_1 : decode cX7_in 1 = .ok (.lload_n 2, 1) := by decide +kernel
theorem dX7_in_2 : decode cX7_in 2 = .ok (.lcmp, 1) := by decide +kernel
theorem dX7_in_3 : decode cX7_in 3 = .ok (.ifCond .lt 14, 3) := by decide +kernel
theorem dX7_in_6 : decode cX7_in 6 = .ok (.lload_n 0, 1) := by decide +kernel
theorem dX7_in_7 : decode cX7_in 7 = .ok (.lload 4, 2) := by decide +kernel
theorem dX7_in_9 : decode cX7_in 9 = .ok (.lcmp, 1) := by decide +kernel
theorem dX7_in_10 : decode cX7_in 10 = .ok (.ifCond .gt 7, 3) := by decide +kernel
theorem dX7_in_13 : decode cX7_in 13 = .ok (.iconst 1, 1) := by decide +kernel
theorem dX7_in_14 : decode cX7_in 14 = .ok (.goto 4, 3) := by decide +kernel
theorem dX7_in_17 : decode cX7_in 17 = .ok (.iconst 0, 1) := by decide +kernel
theorem dX7_in_18 : decode cX7_in 18 = .ok (.ireturn, 1) := by decide +kernel
theorem dX7_init_0 : decode cX7_init 0 = .ok (.aload_n 0, 1) := by decide +kernel
theorem dX7_init_1 : decode cX7_init 1 = .ok (.invokespecial 1, 3) := by decide +kernel
theorem dX7_init_4 : decode cX7_init 4 = .ok (.aload_n 0, 1) := by decide +kernel
theorem dX7_init_5 : decode cX7_init 5 = .ok (.bipush 7, 2) := by decide +kernel
theorem dX7_init_7 : decode cX7_init 7 = .ok (.newarray .int, 2) := by decide +kernel
theorem dX7_init_9 : decode cX7_init 9 = .ok (.putfield 7, 3) := by decide +kernel
theorem dX7_init_12 : decode cX7_init 12 = .ok (.aload_n 0, 1) := by decide +kernel
theorem dX7_init_13 : decode cX7_init 13 = .ok (.bipush 9, 2) := by decide +kernel
theorem dX7_init_15 : decode cX7_init 15 = .ok (.newarray .int, 2) := by decide +kernel
theorem dX7_init_17 : decode cX7_init 17 = .ok (.putfield 13, 3) := by decide +kernel
theorem dX7_init_20 : decode cX7_init 20 = .ok (.aload_n 0, 1) := by decide +kernel
theorem dX7_init_21 : decode cX7_init 21 = .ok (.bipush 42, 2) := by decide +kernel
theorem dX7_init_23 : decode cX7_init 23 = .ok (.newarray .int, 2) := by decide +kernel
theorem dX7_init_25 : decode cX7_init 25 = .ok (.putfield 16, 3) := by decide +kernel
theorem dX7_init_28 : decode cX7_init 28 = .ok (.aload_n 0, 1) := by decide +kernel
theorem dX7_init_29 : decode cX7_init 29 = .ok (.bipush 80, 2) := by decide +kernel
theorem dX7_init_31 : decode cX7_init 31 = .ok (.newarray .int, 2) := by decide +kernel
theorem dX7_init_33 : decode cX7_init 33 = .ok (.putfield 19, 3) := by decide +kernel
theorem dX7_init_36 : decode cX7_init 36 = .ok (.aload_n 0, 1) := by decide +kernel
theorem dX7_init_37 : decode cX7_init 37 = .ok (.bipush 24, 2) := by decide +kernel
theorem dX7_init_39 : decode cX7_init 39 = .ok (.newarray .int, 2) := by decide +kernel
theorem dX7_init_41 : decode cX7_init 41 = .ok (.putfield 22, 3) := by decide +kernel
theorem dX7_init_44 : decode cX7_init 44 = .ok (.aload_n 0, 1) := by decide +kernel
theorem dX7_init_45 : decode cX7_init 45 = .ok (.iconst 3, 1) := by decide +kernel
theorem dX7_init_46 : decode cX7_init 46 = .ok (.newarray .int, 2) := by decide +kernel
theorem dX7_init_48 : decode cX7_init 48 = .ok (.putfield 25, 3) := by decide +kernel
theorem dX7_init_51 : decode cX7_init 51 = .ok (.aload_n 0, 1) := by decide +kernel
theorem dX7_init_52 : decode cX7_init 52 = .ok (.iconst 3, 1) := by decide +kernel
theorem dX7_init_53 : decode cX7_init 53 = .ok (.newarray .int, 2) := by decide +kernel
theorem dX7_init_55 : decode cX7_init 55 = .ok (.putfield 28, 3) := by decide +kernel
theorem dX7_init_58 : decode cX7_init 58 = .ok (.aload_n 0, 1) := by decide +kernel
theorem dX7_init_59 : decode cX7_init 59 = .ok (.iconst 3, 1) := by decide +kernel
theorem dX7_init_60 : decode cX7_init 60 = .ok (.newarray .int, 2) := by decide +kernel
theorem dX7_init_62 : decode cX7_init 62 = .ok (.putfield 31, 3) := by decide +kernel
theorem dX7_init_65 : decode cX7_init 65 = .ok (.aload_n 0, 1) := by decide +kernel
theorem dX7_init_66 : decode cX7_init 66 = .ok (.bipush 14, 2) := by decide +kernel
theorem dX7_init_68 : decode cX7_init 68 = .ok (.newarray .int, 2) := by decide +kernel
theorem dX7_init_70 : decode cX7_init 70 = .ok (.putfield 34, 3) := by decide +kernel
theorem dX7_init_73 : decode cX7_init 73 = .ok (.aload_n 0, 1) := by decide +kernel
theorem dX7_init_74 : decode cX7_init 74 = .ok (.bipush 14, 2) := by decide +kernel
theorem dX7_init_76 : decode cX7_init 76 = .ok (.newarray .int, 2) := by decide +kernel
theorem dX7_init_78 : decode cX7_init 78 = .ok (.putfield 37, 3) := by decide +kernel
theorem dX7_init_81 : decode cX7_init 81 = .ok (.aload_n 0, 1) := by decide +kernel
theorem dX7_init_82 : decode cX7_init 82 = .ok (.bipush 14, 2) := by decide +kernel
theorem dX7_init_84 : decode cX7_init 84 = .ok (.newarray .int, 2) := by decide +kernel
theorem dX7_init_86 : decode cX7_init 86 = .ok (.putfield 40, 3) := by decide +kernel
theorem dX7_init_89 : decode cX7_init 89 = .ok (.aload_n 0, 1) := by decide +kernel
theorem dX7_init_90 : decode cX7_init 90 = .ok (.bipush 14, 2) := by decide +kernel
theorem dX7_init_92 : decode cX7_init 92 = .ok (.newarray .int, 2) := by decide +kernel
theorem dX7_init_94 : decode cX7_init 94 = .ok (.putfield 43, 3) := by decide +kernel
theorem dX7_init_97 : decode cX7_init 97 = .ok (.aload_n 0, 1) := by decide +kernel
theorem dX7_init_98 : decode cX7_init 98 = .ok (.bipush 14, 2) := by decide +kernel
theorem dX7_init_100 : decode cX7_init 100 = .ok (.newarray .int, 2) := by decide +kernel
theorem dX7_init_102 : decode cX7_init 102 = .ok (.putfield 46, 3) := by decide +kernel
theorem dX7_init_105 : decode cX7_init 105 = .ok (.aload_n 0, 1) := by decide +kernel
theorem dX7_init_106 : decode cX7_init 106 = .ok (.bipush 14, 2) := by decide +kernel
theorem dX7_init_108 : decode cX7_init 108 = .ok (.newarray .int, 2) := by decide +kernel
theorem dX7_init_110 : decode cX7_init 110 = .ok (.putfield 49, 3) := by decide +kernel
theorem dX7_init_113 : decode cX7_init 113 = .ok (.aload_n 0, 1) := by decide +kernel
theorem dX7_init_114 : decode cX7_init 114 = .ok (.bipush 14, 2) := by decide +kernel
theorem dX7_init_116 : decode cX7_init 116 = .ok (.newarray .int, 2) := by decide +kernel
theorem dX7_init_118 : decode cX7_init 118 = .ok (.putfield 52, 3) := by decide +kernel
theorem dX7_init_121 : decode cX7_init 121 = .ok (.aload_n 0, 1) := by decide +kernel
theorem dX7_init_122 : decode cX7_init 122 = .ok (.bipush 14, 2) := by decide +kernel
theorem dX7_init_124 : decode cX7_init 124 = .ok (.newarray .int, 2) := by decide +kernel
theorem dX7_init_126 : decode cX7_init 126 = .ok (.putfield 55, 3) := by decide +kernel
theorem dX7_init_129 : decode cX7_init 129 = .ok (.aload_n 0, 1) := by decide +kernel
theorem dX7_init_130 : decode cX7_init 130 = .ok (.bipush 14, 2) := by decide +kernel
theorem dX7_init_132 : decode cX7_init 132 = .ok (.newarray .int, 2) := by decide +kernel
theorem dX7_init_134 : decode cX7_init 134 = .ok (.putfield 58, 3) := by decide +kernel
theorem dX7_init_137 : decode cX7_init 137 = .ok (.aload_n 0, 1) := by decide +kernel
theorem dX7_init_138 : decode cX7_init 138 = .ok (.bipush 14, 2) := by decide +kernel
theorem dX7_init_140 : decode cX7_init 140 = .ok (.newarray .int, 2) := by decide +kernel
theorem dX7_init_142 : decode cX7_init 142 = .ok (.putfield 61, 3) := by decide +kernel
theorem dX7_init_145 : decode cX7_init 145 = .ok (.aload_n 0, 1) := by decide +kernel
theorem dX7_init_146 : decode cX7_init 146 = .ok (.bipush 14, 2) := by decide +kernel
theorem dX7_init_148 : decode cX7_init 148 = .ok (.newarray .int, 2) := by decide +kernel
theorem dX7_init_150 : decode cX7_init 150 = .ok (.putfield 64, 3) := by decide +kernel
theorem dX7_init_153 : decode cX7_init 153 = .ok (.aload_n 0, 1) := by decide +kernel
theorem dX7_init_154 : decode cX7_init 154 = .ok (.iconst 3, 1) := by decide +kernel
theorem dX7_init_155 : decode cX7_init 155 = .ok (.newarray .int, 2) := by decide +kernel
theorem dX7_init_157 : decode cX7_init 157 = .ok (.putfield 67, 3) := by decide +kernel
theorem dX7_init_160 : decode cX7_init 160 = .ok (.aload_n 0, 1) := by decide +kernel
theorem dX7_init_161 : decode cX7_init 161 = .ok (.iconst 3, 1) := by decide +kernel
theorem dX7_init_162 : decode cX7_init 162 = .ok (.newarray .int, 2) := by decide +kernel
theorem dX7_init_164 : decode cX7_init 164 = .ok (.putfield 70, 3) := by decide +kernel
theorem dX7_init_167 : decode cX7_init 167 = .ok (.aload_n 0, 1) := by decide +kernel
theorem dX7_init_168 : decode cX7_init 168 = .ok (.sipush 400, 3) := by decide +kernel
theorem dX7_init_171 : decode cX7_init 171 = .ok (.newarray .int, 2) := by decide +kernel
theorem dX7_init_173 : decode cX7_init 173 = .ok (.putfield 73, 3) := by decide +kernel
theorem dX7_init_176 : decode cX7_init 176 = .ok (.aload_n 0, 1) := by decide +kernel
theorem dX7_init_177 : decode cX7_init 177 = .ok (.bipush 100, 2) := by decide +kernel
theorem dX7_init_179 : decode cX7_init 179 = .ok (.newarray .int, 2) := by decide +kernel
theorem dX7_init_181 : decode cX7_init 181 = .ok (.putfield 76, 3) := by decide +kernel
theorem dX7_init_184 : decode cX7_init 184 = .ok (.aload_n 0, 1) := by decide +kernel
theorem dX7_init_185 : decode cX7_init 185 = .ok (.sipush 6000, 3) := by decide +kernel
theorem dX7_init_188 : decode cX7_init 188 = .ok (.newarray .int, 2) := by decide +kernel
theorem dX7_init_190 : decode cX7_init 190 = .ok (.putfield 79, 3) := by decide +kernel
theorem dX7_init_193 : decode cX7_init 193 = .ok (.aload_n 0, 1) := by decide +kernel
theorem dX7_init_194 : decode cX7_init 194 = .ok (.bipush 80, 2) := by decide +kernel
theorem dX7_init_196 : decode cX7_init 196 = .ok (.newarray .int, 2) := by decide +kernel
theorem dX7_init_198 : decode cX7_init 198 = .ok (.putfield 82, 3) := by decide +kernel
theorem dX7_init_201 : decode cX7_init 201 = .ok (.aload_n 0, 1) := by decide +kernel
theorem dX7_init_202 : decode cX7_init 202 = .ok (.iconst 4, 1) := by decide +kernel
theorem dX7_init_203 : decode cX7_init 203 = .ok (.newarray .int, 2) := by decide +kernel
theorem dX7_init_205 : decode cX7_init 205 = .ok (.putfield 85, 3) := by decide +kernel
theorem dX7_init_208 : decode cX7_init 208 = .ok (.aload_n 0, 1) := by decide +kernel
theorem dX7_init_209 : decode cX7_init 209 = .ok (.iconst 4, 1) := by decide +kernel
theorem dX7_init_210 : decode cX7_init 210 = .ok (.newarray .int, 2) := by decide +kernel
theorem dX7_init_212 : decode cX7_init 212 = .ok (.putfield 88, 3) := by decide +kernel
theorem dX7_init_215 : decode cX7_init 215 = .ok (.aload_n 0, 1) := by decide +kernel
theorem dX7_init_216 : decode cX7_init 216 = .ok (.bipush 64, 2) := by decide +kernel
theorem dX7_init_218 : decode cX7_init 218 = .ok (.newarray .int, 2) := by decide +kernel
theorem dX7_init_220 : decode cX7_init 220 = .ok (.putfield 91, 3) := by decide +kernel
theorem dX7_init_223 : decode cX7_init 223 = .ok (.aload_n 0, 1) := by decide +kernel
theorem dX7_init_224 : decode cX7_init 224 = .ok (.bipush 16, 2) := by decide +kernel
theorem dX7_init_226 : decode cX7_init 226 = .ok (.newarray .int, 2) := by decide +kernel
theorem dX7_init_228 : decode cX7_init 228 = .ok (.putfield 94, 3) := by decide +kernel
theorem dX7_init_231 : decode cX7_init 231 = .ok (.iconst 0, 1) := by decide +kernel
theorem dX7_init_232 : decode cX7_init 232 = .ok (.istore_n 1, 1) := by decide +kernel
theorem dX7_init_233 : decode cX7_init 233 = .ok (.iload_n 1, 1) := by decide +kernel
theorem dX7_init_234 : decode cX7_init 234 = .ok (.iconst 4, 1) := by decide +kernel
theorem dX7_init_235 : decode cX7_init 235 = .ok (.if_icmp .ge 16, 3) := by decide +kernel
theorem dX7_init_238 : decode cX7_init 238 = .ok (.aload_n 0, 1) := by decide +kernel
theorem dX7_init_239 : decode cX7_init 239 = .ok (.getfield 85, 3) := by decide +kernel
theorem dX7_init_242 : decode cX7_init 242 = .ok (.iload_n 1, 1) := by decide +kernel
theorem dX7_init_243 : decode cX7_init 243 = .ok (.iconst (-1), 1) := by decide +kernel
theorem dX7_init_244 : decode cX7_init 244 = .ok (.iastore, 1) := by decide +kernel
theorem dX7_init_245 : decode cX7_init 245 = .ok (.iinc 1 1, 3) := by decide +kernel
theorem dX7_init_248 : decode cX7_init 248 = .ok (.goto (-15), 3) := by decide +kernel
theorem dX7_init_251 : decode cX7_init 251 = .ok (.aload_n 0, 1) := by decide +kernel
theorem dX7_init_252 : decode cX7_init 252 = .ok (.getfield 7, 3) := by decide +kernel
theorem dX7_init_255 : decode cX7_init 255 = .ok (.iconst 0, 1) := by decide +kernel
theorem dX7_init_256 : decode cX7_init 256 = .ok (.iconst 1, 1) := by decide +kernel
theorem dX7_init_257 : decode cX7_init 257 = .ok (.iastore, 1) := by decide +kernel
theorem dX7_init_258 : decode cX7_init 258 = .ok (.aload_n 0, 1) := by decide +kernel
theorem dX7_init_259 : decode cX7_init 259 = .ok (.getfield 7, 3) := by decide +kernel
theorem dX7_init_262 : decode cX7_init 262 = .ok (.iconst 1, 1) := by decide +kernel
theorem dX7_init_263 : decode cX7_init 263 = .ok (.iconst 4, 1) := by decide +kernel
theorem dX7_init_264 : decode cX7_init 264 = .ok (.iastore, 1) := by decide +kernel
theorem dX7_init_265 : decode cX7_init 265 = .ok (.aload_n 0, 1) := by decide +kernel
theorem dX7_init_266 : decode cX7_init 266 = .ok (.getfield 7, 3) := by decide +kernel
theorem dX7_init_269 : decode cX7_init 269 = .ok (.iconst 2, 1) := by decide +kernel
theorem dX7_init_270 : decode cX7_init 270 = .ok (.iconst 2, 1) := by decide +kernel
theorem dX7_init_271 : decode cX7_init 271 = .ok (.iastore, 1) := by decide +kernel
theorem dX7_init_272 : decode cX7_init 272 = .ok (.aload_n 0, 1) := by decide +kernel
theorem dX7_init_273 : decode cX7_init 273 = .ok (.getfield 7, 3) := by decide +kernel
theorem dX7_init_276 : decode cX7_init 276 = .ok (.iconst 3, 1) := by decide +kernel
theorem dX7_init_277 : decode cX7_init 277 = .ok (.bipush 12, 2) := by decide +kernel
theorem dX7_init_279 : decode cX7_init 279 = .ok (.iastore, 1) := by decide +kernel
theorem dX7_init_280 : decode cX7_init 280 = .ok (.aload_n 0, 1) := by decide +kernel
theorem dX7_init_281 : decode cX7_init 281 = .ok (.getfield 7, 3) := by decide +kernel
theorem dX7_init_284 : decode cX7_init 284 = .ok (.iconst 4, 1) := by decide +kernel
theorem dX7_init_285 : decode cX7_init 285 = .ok (.iconst 3, 1) := by decide +kernel
theorem dX7_init_286 : decode cX7_init 286 = .ok (.iastore, 1) := by decide +kernel
theorem dX7_init_287 : decode cX7_init 287 = .ok (.aload_n 0, 1) := by decide +kernel
theorem dX7_init_288 : decode cX7_init 288 = .ok (.getfield 7, 3) := by decide +kernel
theorem dX7_init_291 : decode cX7_init 291 = .ok (.iconst 5, 1) := by decide +kernel
theorem dX7_init_292 : decode cX7_init 292 = .ok (.iconst 2, 1) := by decide +kernel
theorem dX7_init_293 : decode cX7_init 293 = .ok (.iastore, 1) := by decide +kernel
theorem dX7_init_294 : decode cX7_init 294 = .ok (.aload_n 0, 1) := by decide +kernel
theorem dX7_init_295 : decode cX7_init 295 = .ok (.getfield 7, 3) := by decide +kernel
theorem dX7_init_298 : decode cX7_init 298 = .ok (.bipush 6, 2) := by decide +kernel
theorem dX7_init_300 : decode cX7_init 300 = .ok (.iconst 5, 1) := by decide +kernel
theorem dX7_init_301 : decode cX7_init 301 = .ok (.iastore, 1) := by decide +kernel
theorem dX7_init_302 : decode cX7_init 302 = .ok (.return_, 1) := by decide +kernel
theorem dX7_isStair_0 : decode cX7_isStair 0 = .ok (.iload_n 1, 1) := by decide +kernel
theorem dX7_isStair_1 : decode cX7_isStair 1 = .ok (.i2l, 1) := by decide +kernel
theorem dX7_isStair_2 : decode cX7_isStair 2 = .ok (.lconst 0, 1) := by decide +kernel
theorem dX7_isStair_3 : decode cX7_isStair 3 = .ok (.aload_n 0, 1) := by decide +kernel
theorem dX7_isStair_4 : decode cX7_isStair 4 = .ok (.getfield 97, 3) := by decide +kernel
theorem dX7_isStair_7 : decode cX7_isStair 7 = .ok (.iconst 1, 1) := by decide +kernel
theorem dX7_isStair_8 : decode cX7_isStair 8 = .ok (.isub, 1) := by decide +kernel
theorem dX7_isStair_9 : decode cX7_isStair 9 = .ok (.i2l, 1) := by decide +kernel
theorem dX7_isStair_10 : decode cX7_isStair 10 = .ok (.invokestatic 101, 3) := by decide +kernel
theorem dX7_isStair_13 : decode cX7_isStair 13 = .ok (.ireturn, 1) := by decide +kernel
theorem dX7_isOne_0 : decode cX7_isOne 0 = .ok (.iload_n 1, 1) := by decide +kernel
theorem dX7_isOne_1 : decode cX7_isOne 1 = .ok (.i2l, 1) := by decide +kernel
theorem dX7_isOne_2 : decode cX7_isOne 2 = .ok (.lconst 0, 1) := by decide +kernel
theorem dX7_isOne_3 : decode cX7_isOne 3 = .ok (.aload_n 0, 1) := by decide +kernel
theorem dX7_isOne_4 : decode cX7_isOne 4 = .ok (.getfield 105, 3) := by decide +kernel
theorem dX7_isOne_7 : decode cX7_isOne 7 = .ok (.iconst 1, 1) := by decide +kernel
theorem dX7_isOne_8 : decode cX7_isOne 8 = .ok (.isub, 1) := by decide +kernel
theorem dX7_isOne_9 : decode cX7_isOne 9 = .ok (.i2l, 1) := by decide +kernel
theorem dX7_isOne_10 : decode cX7_isOne 10 = .ok (.invokestatic 101, 3) := by decide +kernel
theorem dX7_isOne_13 : decode cX7_isOne 13 = .ok (.ireturn, 1) := by decide +kernel
theorem dX7_isOf_0 : decode cX7_isOf 0 = .ok (.iload_n 0, 1) := by decide +kernel
theorem dX7_isOf_1 : decode cX7_isOf 1 = .ok (.ifCond .ne 17, 3) := by decide +kernel
theorem dX7_isOf_4 : decode cX7_isOf 4 = .ok (.iload_n 1, 1) := by decide +kernel
theorem dX7_isOf_5 : decode cX7_isOf 5 = .ok (.i2l, 1) := by decide +kernel
theorem dX7_isOf_6 : decode cX7_isOf 6 = .ok (.ldc2_w 108, 3) := by decide +kernel
theorem dX7_isOf_9 : decode cX7_isOf 9 = .ok (.ldc2_w 110, 3) := by decide +kernel
theorem dX7_isOf_12 : decode cX7_isOf 12 = .ok (.invokestatic 101, 3) := by decide +kernel
theorem dX7_isOf_15 : decode cX7_isOf 15 = .ok (.goto 29, 3) := by decide +kernel
theorem dX7_isOf_18 : decode cX7_isOf 18 = .ok (.iload_n 0, 1) := by decide +kernel
theorem dX7_isOf_19 : decode cX7_isOf 19 = .ok (.iconst 1, 1) := by decide +kernel
theorem dX7_isOf_20 : decode cX7_isOf 20 = .ok (.if_icmp .ne 15, 3) := by decide +kernel
theorem dX7_isOf_23 : decode cX7_isOf 23 = .ok (.iload_n 1, 1) := by decide +kernel
theorem dX7_isOf_24 : decode cX7_isOf 24 = .ok (.i2l, 1) := by decide +kernel
theorem dX7_isOf_25 : decode cX7_isOf 25 = .ok (.lconst 0, 1) := by decide +kernel
theorem dX7_isOf_26 : decode cX7_isOf 26 = .ok (.ldc2_w 112, 3) := by decide +kernel
theorem dX7_isOf_29 : decode cX7_isOf 29 = .ok (.invokestatic 101, 3) := by decide +kernel
theorem dX7_isOf_32 : decode cX7_isOf 32 = .ok (.goto 12, 3) := by decide +kernel
theorem dX7_isOf_35 : decode cX7_isOf 35 = .ok (.iload_n 1, 1) := by decide +kernel
theorem dX7_isOf_36 : decode cX7_isOf 36 = .ok (.i2l, 1) := by decide +kernel
theorem dX7_isOf_37 : decode cX7_isOf 37 = .ok (.lconst 1, 1) := by decide +kernel
theorem dX7_isOf_38 : decode cX7_isOf 38 = .ok (.ldc2_w 112, 3) := by decide +kernel
theorem dX7_isOf_41 : decode cX7_isOf 41 = .ok (.invokestatic 101, 3) := by decide +kernel
theorem dX7_isOf_44 : decode cX7_isOf 44 = .ok (.ireturn, 1) := by decide +kernel
theorem dX7_stair_0 : decode cX7_stair 0 = .ok (.iconst 0, 1) := by decide +kernel
theorem dX7_stair_1 : decode cX7_stair 1 = .ok (.iload_n 1, 1) := by decide +kernel
theorem dX7_stair_2 : decode cX7_stair 2 = .ok (.invokestatic 114, 3) := by decide +kernel
theorem dX7_stair_5 : decode cX7_stair 5 = .ok (.ifCond .eq 11, 3) := by decide +kernel
theorem dX7_stair_8 : decode cX7_stair 8 = .ok (.iconst 2, 1) := by decide +kernel
theorem dX7_stair_9 : decode cX7_stair 9 = .ok (.iload_n 2, 1) := by decide +kernel
theorem dX7_stair_10 : decode cX7_stair 10 = .ok (.invokestatic 114, 3) := by decide +kernel
theorem dX7_stair_13 : decode cX7_stair 13 = .ok (.ifCond .ne 5, 3) := by decide +kernel
theorem dX7_stair_16 : decode cX7_stair 16 = .ok (.iconst (-1), 1) := by decide +kernel
theorem dX7_stair_17 : decode cX7_stair 17 = .ok (.ireturn, 1) := by decide +kernel
theorem dX7_stair_18 : decode cX7_stair 18 = .ok (.aload_n 0, 1) := by decide +kernel
theorem dX7_stair_19 : decode cX7_stair 19 = .ok (.getfield 97, 3) := by decide +kernel
theorem dX7_stair_22 : decode cX7_stair 22 = .ok (.iconst 3, 1) := by decide +kernel
theorem dX7_stair_23 : decode cX7_stair 23 = .ok (.if_icmp .ne 6, 3) := by decide +kernel
theorem dX7_stair_26 : decode cX7_stair 26 = .ok (.bipush (-3), 2) := by decide +kernel
theorem dX7_stair_28 : decode cX7_stair 28 = .ok (.ireturn, 1) := by decide +kernel
theorem dX7_stair_29 : decode cX7_stair 29 = .ok (.aload_n 0, 1) := by decide +kernel
theorem dX7_stair_30 : decode cX7_stair 30 = .ok (.getfield 13, 3) := by decide +kernel
theorem dX7_stair_33 : decode cX7_stair 33 = .ok (.iconst 3, 1) := by decide +kernel
theorem dX7_stair_34 : decode cX7_stair 34 = .ok (.aload_n 0, 1) := by decide +kernel
theorem dX7_stair_35 : decode cX7_stair 35 = .ok (.getfield 97, 3) := by decide +kernel
theorem dX7_stair_38 : decode cX7_stair 38 = .ok (.imul, 1) := by decide +kernel
theorem dX7_stair_39 : decode cX7_stair 39 = .ok (.iload_n 1, 1) := by decide +kernel
theorem dX7_stair_40 : decode cX7_stair 40 = .ok (.iastore, 1) := by decide +kernel
theorem dX7_stair_41 : decode cX7_stair 41 = .ok (.aload_n 0, 1) := by decide +kernel
theorem dX7_stair_42 : decode cX7_stair 42 = .ok (.getfield 13, 3) := by decide +kernel
theorem dX7_stair_45 : decode cX7_stair 45 = .ok (.iconst 3, 1) := by decide +kernel
theorem dX7_stair_46 : decode cX7_stair 46 = .ok (.aload_n 0, 1) := by decide +kernel
theorem dX7_stair_47 : decode cX7_stair 47 = .ok (.getfield 97, 3) := by decide +kernel
theorem dX7_stair_50 : decode cX7_stair 50 = .ok (.imul, 1) := by decide +kernel
theorem dX7_stair_51 : decode cX7_stair 51 = .ok (.iconst 1, 1) := by decide +kernel
theorem dX7_stair_52 : decode cX7_stair 52 = .ok (.iadd, 1) := by decide +kernel
theorem dX7_stair_53 : decode cX7_stair 53 = .ok (.iconst 0, 1) := by decide +kernel
theorem dX7_stair_54 : decode cX7_stair 54 = .ok (.iastore, 1) := by decide +kernel
theorem dX7_stair_55 : decode cX7_stair 55 = .ok (.aload_n 0, 1) := by decide +kernel
theorem dX7_stair_56 : decode cX7_stair 56 = .ok (.getfield 13, 3) := by decide +kernel
theorem dX7_stair_59 : decode cX7_stair 59 = .ok (.iconst 3, 1) := by decide +kernel
theorem dX7_stair_60 : decode cX7_stair 60 = .ok (.aload_n 0, 1) := by decide +kernel
theorem dX7_stair_61 : decode cX7_stair 61 = .ok (.getfield 97, 3) := by decide +kernel
theorem dX7_stair_64 : decode cX7_stair 64 = .ok (.imul, 1) := by decide +kernel
theorem dX7_stair_65 : decode cX7_stair 65 = .ok (.iconst 2, 1) := by decide +kernel
theorem dX7_stair_66 : decode cX7_stair 66 = .ok (.iadd, 1) := by decide +kernel
theorem dX7_stair_67 : decode cX7_stair 67 = .ok (.iload_n 2, 1) := by decide +kernel
theorem dX7_stair_68 : decode cX7_stair 68 = .ok (.iastore, 1) := by decide +kernel
theorem dX7_stair_69 : decode cX7_stair 69 = .ok (.aload_n 0, 1) := by decide +kernel
theorem dX7_stair_70 : decode cX7_stair 70 = .ok (.dup, 1) := by decide +kernel
theorem dX7_stair_71 : decode cX7_stair 71 = .ok (.getfield 97, 3) := by decide +kernel
theorem dX7_stair_74 : decode cX7_stair 74 = .ok (.iconst 1, 1) := by decide +kernel
theorem dX7_stair_75 : decode cX7_stair 75 = .ok (.iadd, 1) := by decide +kernel
theorem dX7_stair_76 : decode cX7_stair 76 = .ok (.putfield 97, 3) := by decide +kernel
theorem dX7_stair_79 : decode cX7_stair 79 = .ok (.aload_n 0, 1) := by decide +kernel
theorem dX7_stair_80 : decode cX7_stair 80 = .ok (.getfield 97, 3) := by decide +kernel
theorem dX7_stair_83 : decode cX7_stair 83 = .ok (.iconst 1, 1) := by decide +kernel
theorem dX7_stair_84 : decode cX7_stair 84 = .ok (.isub, 1) := by decide +kernel
theorem dX7_stair_85 : decode cX7_stair 85 = .ok (.ireturn, 1) := by decide +kernel
theorem dX7_of_0 : decode cX7_of 0 = .ok (.aload_n 0, 1) := by decide +kernel
theorem dX7_of_1 : decode cX7_of 1 = .ok (.iload_n 1, 1) := by decide +kernel
theorem dX7_of_2 : decode cX7_of 2 = .ok (.invokevirtual 118, 3) := by decide +kernel
theorem dX7_of_5 : decode cX7_of 5 = .ok (.ifCond .eq 23, 3) := by decide +kernel
theorem dX7_of_8 : decode cX7_of 8 = .ok (.iload_n 2, 1) := by decide +kernel
theorem dX7_of_9 : decode cX7_of 9 = .ok (.i2l, 1) := by decide +kernel
theorem dX7_of_10 : decode cX7_of 10 = .ok (.lconst 0, 1) := by decide +kernel
theorem dX7_of_11 : decode cX7_of 11 = .ok (.ldc2_w 112, 3) := by decide +kernel
theorem dX7_of_14 : decode cX7_of 14 = .ok (.invokestatic 101, 3) := by decide +kernel
theorem dX7_of_17 : decode cX7_of 17 = .ok (.ifCond .eq 11, 3) := by decide +kernel
theorem dX7_of_20 : decode cX7_of 20 = .ok (.iload_n 2, 1) := by decide +kernel
theorem dX7_of_21 : decode cX7_of 21 = .ok (.iload_n 3, 1) := by decide +kernel
theorem dX7_of_22 : decode cX7_of 22 = .ok (.invokestatic 114, 3) := by decide +kernel
theorem dX7_of_25 : decode cX7_of 25 = .ok (.ifCond .ne 5, 3) := by decide +kernel
theorem dX7_of_28 : decode cX7_of 28 = .ok (.iconst (-1), 1) := by decide +kernel
theorem dX7_of_29 : decode cX7_of 29 = .ok (.ireturn, 1) := by decide +kernel
theorem dX7_of_30 : decode cX7_of 30 = .ok (.aload_n 0, 1) := by decide +kernel
theorem dX7_of_31 : decode cX7_of 31 = .ok (.getfield 13, 3) := by decide +kernel
theorem dX7_of_34 : decode cX7_of 34 = .ok (.iconst 3, 1) := by decide +kernel
theorem dX7_of_35 : decode cX7_of 35 = .ok (.iload_n 1, 1) := by decide +kernel
theorem dX7_of_36 : decode cX7_of 36 = .ok (.imul, 1) := by decide +kernel
theorem dX7_of_37 : decode cX7_of 37 = .ok (.iload_n 2, 1) := by decide +kernel
theorem dX7_of_38 : decode cX7_of 38 = .ok (.iadd, 1) := by decide +kernel
theorem dX7_of_39 : decode cX7_of 39 = .ok (.iaload, 1) := by decide +kernel
theorem dX7_of_40 : decode cX7_of 40 = .ok (.istore 4, 2) := by decide +kernel
theorem dX7_of_42 : decode cX7_of 42 = .ok (.aload_n 0, 1) := by decide +kernel
theorem dX7_of_43 : decode cX7_of 43 = .ok (.getfield 13, 3) := by decide +kernel
theorem dX7_of_46 : decode cX7_of 46 = .ok (.iconst 3, 1) := by decide +kernel
theorem dX7_of_47 : decode cX7_of 47 = .ok (.iload_n 1, 1) := by decide +kernel
theorem dX7_of_48 : decode cX7_of 48 = .ok (.imul, 1) := by decide +kernel
theorem dX7_of_49 : decode cX7_of 49 = .ok (.iload_n 2, 1) := by decide +kernel
theorem dX7_of_50 : decode cX7_of 50 = .ok (.iadd, 1) := by decide +kernel
theorem dX7_of_51 : decode cX7_of 51 = .ok (.iload_n 3, 1) := by decide +kernel
theorem dX7_of_52 : decode cX7_of 52 = .ok (.iastore, 1) := by decide +kernel
theorem dX7_of_53 : decode cX7_of 53 = .ok (.iload 4, 2) := by decide +kernel
theorem dX7_of_55 : decode cX7_of 55 = .ok (.ireturn, 1) := by decide +kernel
theorem dX7_isSet_0 : decode cX7_isSet 0 = .ok (.iload_n 0, 1) := by decide +kernel
theorem dX7_isSet_1 : decode cX7_isSet 1 = .ok (.tableswitch 89 0 5 #[39, 47, 57, 67, 47, 79], 39) := by decide +kernel
theorem dX7_isSet_40 : decode cX7_isSet 40 = .ok (.iload_n 1, 1) := by decide +kernel
theorem dX7_isSet_41 : decode cX7_isSet 41 = .ok (.i2l, 1) := by decide +kernel
theorem dX7_isSet_42 : decode cX7_isSet 42 = .ok (.lconst 0, 1) := by decide +kernel
theorem dX7_isSet_43 : decode cX7_isSet 43 = .ok (.lconst 1, 1) := by decide +kernel
theorem dX7_isSet_44 : decode cX7_isSet 44 = .ok (.invokestatic 101, 3) := by decide +kernel
theorem dX7_isSet_47 : decode cX7_isSet 47 = .ok (.ireturn, 1) := by decide +kernel
theorem dX7_isSet_48 : decode cX7_isSet 48 = .ok (.iload_n 1, 1) := by decide +kernel
theorem dX7_isSet_49 : decode cX7_isSet 49 = .ok (.i2l, 1) := by decide +kernel
theorem dX7_isSet_50 : decode cX7_isSet 50 = .ok (.lconst 1, 1) := by decide +kernel
theorem dX7_isSet_51 : decode cX7_isSet 51 = .ok (.ldc2_w 122, 3) := by decide +kernel
theorem dX7_isSet_54 : decode cX7_isSet 54 = .ok (.invokestatic 101, 3) := by decide +kernel
theorem dX7_isSet_57 : decode cX7_isSet 57 = .ok (.ireturn, 1) := by decide +kernel
theorem dX7_isSet_58 : decode cX7_isSet 58 = .ok (.iload_n 1, 1) := by decide +kernel
theorem dX7_isSet_59 : decode cX7_isSet 59 = .ok (.i2l, 1) := by decide +kernel
theorem dX7_isSet_60 : decode cX7_isSet 60 = .ok (.lconst 1, 1) := by decide +kernel
theorem dX7_isSet_61 : decode cX7_isSet 61 = .ok (.ldc2_w 108, 3) := by decide +kernel
theorem dX7_isSet_64 : decode cX7_isSet 64 = .ok (.invokestatic 101, 3) := by decide +kernel
theorem dX7_isSet_67 : decode cX7_isSet 67 = .ok (.ireturn, 1) := by decide +kernel
theorem dX7_isSet_68 : decode cX7_isSet 68 = .ok (.iload_n 1, 1) := by decide +kernel
theorem dX7_isSet_69 : decode cX7_isSet 69 = .ok (.i2l, 1) := by decide +kernel
theorem dX7_isSet_70 : decode cX7_isSet 70 = .ok (.ldc2_w 112, 3) := by decide +kernel
theorem dX7_isSet_73 : decode cX7_isSet 73 = .ok (.ldc2_w 124, 3) := by decide +kernel
theorem dX7_isSet_76 : decode cX7_isSet 76 = .ok (.invokestatic 101, 3) := by decide +kernel
theorem dX7_isSet_79 : decode cX7_isSet 79 = .ok (.ireturn, 1) := by decide +kernel
theorem dX7_isSet_80 : decode cX7_isSet 80 = .ok (.iload_n 1, 1) := by decide +kernel
theorem dX7_isSet_81 : decode cX7_isSet 81 = .ok (.i2l, 1) := by decide +kernel
theorem dX7_isSet_82 : decode cX7_isSet 82 = .ok (.lconst 0, 1) := by decide +kernel
theorem dX7_isSet_83 : decode cX7_isSet 83 = .ok (.ldc2_w 122, 3) := by decide +kernel
theorem dX7_isSet_86 : decode cX7_isSet 86 = .ok (.invokestatic 101, 3) := by decide +kernel
theorem dX7_isSet_89 : decode cX7_isSet 89 = .ok (.ireturn, 1) := by decide +kernel
theorem dX7_isSet_90 : decode cX7_isSet 90 = .ok (.iload_n 0, 1) := by decide +kernel
theorem dX7_isSet_91 : decode cX7_isSet 91 = .ok (.bipush 6, 2) := by decide +kernel
theorem dX7_isSet_93 : decode cX7_isSet 93 = .ok (.if_icmp .ne 19, 3) := by decide +kernel
theorem dX7_isSet_96 : decode cX7_isSet 96 = .ok (.iload_n 1, 1) := by decide +kernel
theorem dX7_isSet_97 : decode cX7_isSet 97 = .ok (.i2l, 1) := by decide +kernel
theorem dX7_isSet_98 : decode cX7_isSet 98 = .ok (.lconst 0, 1) := by decide +kernel
theorem dX7_isSet_99 : decode cX7_isSet 99 = .ok (.ldc2_w 110, 3) := by decide +kernel
theorem dX7_isSet_102 : decode cX7_isSet 102 = .ok (.invokestatic 101, 3) := by decide +kernel
theorem dX7_isSet_105 : decode cX7_isSet 105 = .ok (.ifCond .eq 7, 3) := by decide +kernel
theorem dX7_isSet_108 : decode cX7_isSet 108 = .ok (.iconst 1, 1) := by decide +kernel
theorem dX7_isSet_109 : decode cX7_isSet 109 = .ok (.goto 4, 3) := by decide +kernel
theorem dX7_isSet_112 : decode cX7_isSet 112 = .ok (.iconst 0, 1) := by decide +kernel
theorem dX7_isSet_113 : decode cX7_isSet 113 = .ok (.ireturn, 1) := by decide +kernel
theorem dX7_set_0 : decode cX7_set 0 = .ok (.iload_n 1, 1) := by decide +kernel
theorem dX7_set_1 : decode cX7_set 1 = .ok (.iload_n 2, 1) := by decide +kernel
theorem dX7_set_2 : decode cX7_set 2 = .ok (.invokestatic 126, 3) := by decide +kernel
theorem dX7_set_5 : decode cX7_set 5 = .ok (.ifCond .ne 5, 3) := by decide +kernel
theorem dX7_set_8 : decode cX7_set 8 = .ok (.iconst (-1), 1) := by decide +kernel
theorem dX7_set_9 : decode cX7_set 9 = .ok (.ireturn, 1) := by decide +kernel
theorem dX7_set_10 : decode cX7_set 10 = .ok (.aload_n 0, 1) := by decide +kernel
theorem dX7_set_11 : decode cX7_set 11 = .ok (.getfield 7, 3) := by decide +kernel
theorem dX7_set_14 : decode cX7_set 14 = .ok (.iload_n 1, 1) := by decide +kernel
theorem dX7_set_15 : decode cX7_set 15 = .ok (.iaload, 1) := by decide +kernel
theorem dX7_set_16 : decode cX7_set 16 = .ok (.istore_n 3, 1) := by decide +kernel
theorem dX7_set_17 : decode cX7_set 17 = .ok (.aload_n 0, 1) := by decide +kernel
theorem dX7_set_18 : decode cX7_set 18 = .ok (.getfield 7, 3) := by decide +kernel
theorem dX7_set_21 : decode cX7_set 21 = .ok (.iload_n 1, 1) := by decide +kernel
theorem dX7_set_22 : decode cX7_set 22 = .ok (.iload_n 2, 1) := by decide +kernel
theorem dX7_set_23 : decode cX7_set 23 = .ok (.iastore, 1) := by decide +kernel
theorem dX7_set_24 : decode cX7_set 24 = .ok (.iload_n 3, 1) := by decide +kernel
theorem dX7_set_25 : decode cX7_set 25 = .ok (.ireturn, 1) := by decide +kernel
theorem dX7_change_0 : decode cX7_change 0 = .ok (.iload_n 1, 1) := by decide +kernel
theorem dX7_change_1 : decode cX7_change 1 = .ok (.i2l, 1) := by decide +kernel
theorem dX7_change_2 : decode cX7_change 2 = .ok (.lconst 0, 1) := by decide +kernel
theorem dX7_change_3 : decode cX7_change 3 = .ok (.ldc2_w 129, 3) := by decide +kernel
theorem dX7_change_6 : decode cX7_change 6 = .ok (.invokestatic 101, 3) := by decide +kernel
theorem dX7_change_9 : decode cX7_change 9 = .ok (.ifCond .eq 15, 3) := by decide +kernel
theorem dX7_change_12 : decode cX7_change 12 = .ok (.iload_n 2, 1) := by decide +kernel
theorem dX7_change_13 : decode cX7_change 13 = .ok (.i2l, 1) := by decide +kernel
theorem dX7_change_14 : decode cX7_change 14 = .ok (.lconst 0, 1) := by decide +kernel
theorem dX7_change_15 : decode cX7_change 15 = .ok (.ldc2_w 131, 3) := by decide +kernel
theorem dX7_change_18 : decode cX7_change 18 = .ok (.invokestatic 101, 3) := by decide +kernel
theorem dX7_change_21 : decode cX7_change 21 = .ok (.ifCond .ne 5, 3) := by decide +kernel
theorem dX7_change_24 : decode cX7_change 24 = .ok (.iconst (-1), 1) := by decide +kernel
theorem dX7_change_25 : decode cX7_change 25 = .ok (.ireturn, 1) := by decide +kernel
theorem dX7_change_26 : decode cX7_change 26 = .ok (.aload_n 0, 1) := by decide +kernel
theorem dX7_change_27 : decode cX7_change 27 = .ok (.getfield 133, 3) := by decide +kernel
theorem dX7_change_30 : decode cX7_change 30 = .ok (.istore_n 3, 1) := by decide +kernel
theorem dX7_change_31 : decode cX7_change 31 = .ok (.aload_n 0, 1) := by decide +kernel
theorem dX7_change_32 : decode cX7_change 32 = .ok (.iload_n 1, 1) := by decide +kernel
theorem dX7_change_33 : decode cX7_change 33 = .ok (.putfield 133, 3) := by decide +kernel
theorem dX7_change_36 : decode cX7_change 36 = .ok (.aload_n 0, 1) := by decide +kernel
theorem dX7_change_37 : decode cX7_change 37 = .ok (.iload_n 2, 1) := by decide +kernel
theorem dX7_change_38 : decode cX7_change 38 = .ok (.putfield 136, 3) := by decide +kernel
theorem dX7_change_41 : decode cX7_change 41 = .ok (.iload_n 3, 1) := by decide +kernel
theorem dX7_change_42 : decode cX7_change 42 = .ok (.ireturn, 1) := by decide +kernel
theorem dX7_comes_0 : decode cX7_comes 0 = .ok (.aload_n 0, 1) := by decide +kernel
theorem dX7_comes_1 : decode cX7_comes 1 = .ok (.getfield 16, 3) := by decide +kernel
theorem dX7_comes_4 : decode cX7_comes 4 = .ok (.iconst 3, 1) := by decide +kernel
theorem dX7_comes_5 : decode cX7_comes 5 = .ok (.aload_n 0, 1) := by decide +kernel
theorem dX7_comes_6 : decode cX7_comes 6 = .ok (.getfield 105, 3) := by decide +kernel
theorem dX7_comes_9 : decode cX7_comes 9 = .ok (.imul, 1) := by decide +kernel
theorem dX7_comes_10 : decode cX7_comes 10 = .ok (.iload_n 1, 1) := by decide +kernel
theorem dX7_comes_11 : decode cX7_comes 11 = .ok (.iastore, 1) := by decide +kernel
theorem dX7_comes_12 : decode cX7_comes 12 = .ok (.aload_n 0, 1) := by decide +kernel
theorem dX7_comes_13 : decode cX7_comes 13 = .ok (.getfield 16, 3) := by decide +kernel
theorem dX7_comes_16 : decode cX7_comes 16 = .ok (.iconst 3, 1) := by decide +kernel
theorem dX7_comes_17 : decode cX7_comes 17 = .ok (.aload_n 0, 1) := by decide +kernel
theorem dX7_comes_18 : decode cX7_comes 18 = .ok (.getfield 105, 3) := by decide +kernel
theorem dX7_comes_21 : decode cX7_comes 21 = .ok (.imul, 1) := by decide +kernel
theorem dX7_comes_22 : decode cX7_comes 22 = .ok (.iconst 1, 1) := by decide +kernel
theorem dX7_comes_23 : decode cX7_comes 23 = .ok (.iadd, 1) := by decide +kernel
theorem dX7_comes_24 : decode cX7_comes 24 = .ok (.iload_n 2, 1) := by decide +kernel
theorem dX7_comes_25 : decode cX7_comes 25 = .ok (.iastore, 1) := by decide +kernel
theorem dX7_comes_26 : decode cX7_comes 26 = .ok (.aload_n 0, 1) := by decide +kernel
theorem dX7_comes_27 : decode cX7_comes 27 = .ok (.getfield 16, 3) := by decide +kernel
theorem dX7_comes_30 : decode cX7_comes 30 = .ok (.iconst 3, 1) := by decide +kernel
theorem dX7_comes_31 : decode cX7_comes 31 = .ok (.aload_n 0, 1) := by decide +kernel
theorem dX7_comes_32 : decode cX7_comes 32 = .ok (.getfield 105, 3) := by decide +kernel
theorem dX7_comes_35 : decode cX7_comes 35 = .ok (.imul, 1) := by decide +kernel
theorem dX7_comes_36 : decode cX7_comes 36 = .ok (.iconst 2, 1) := by decide +kernel
theorem dX7_comes_37 : decode cX7_comes 37 = .ok (.iadd, 1) := by decide +kernel
theorem dX7_comes_38 : decode cX7_comes 38 = .ok (.iload_n 3, 1) := by decide +kernel
theorem dX7_comes_39 : decode cX7_comes 39 = .ok (.iastore, 1) := by decide +kernel
theorem dX7_comes_40 : decode cX7_comes 40 = .ok (.aload_n 0, 1) := by decide +kernel
theorem dX7_comes_41 : decode cX7_comes 41 = .ok (.dup, 1) := by decide +kernel
theorem dX7_comes_42 : decode cX7_comes 42 = .ok (.getfield 105, 3) := by decide +kernel
theorem dX7_comes_45 : decode cX7_comes 45 = .ok (.iconst 1, 1) := by decide +kernel
theorem dX7_comes_46 : decode cX7_comes 46 = .ok (.iadd, 1) := by decide +kernel
theorem dX7_comes_47 : decode cX7_comes 47 = .ok (.putfield 105, 3) := by decide +kernel
theorem dX7_comes_50 : decode cX7_comes 50 = .ok (.aload_n 0, 1) := by decide +kernel
theorem dX7_comes_51 : decode cX7_comes 51 = .ok (.getfield 105, 3) := by decide +kernel
theorem dX7_comes_54 : decode cX7_comes 54 = .ok (.iconst 1, 1) := by decide +kernel
theorem dX7_comes_55 : decode cX7_comes 55 = .ok (.isub, 1) := by decide +kernel
theorem dX7_comes_56 : decode cX7_comes 56 = .ok (.ireturn, 1) := by decide +kernel
theorem dX7_person_0 : decode cX7_person 0 = .ok (.iload_n 1, 1) := by decide +kernel
theorem dX7_person_1 : decode cX7_person 1 = .ok (.i2l, 1) := by decide +kernel
theorem dX7_person_2 : decode cX7_person 2 = .ok (.lconst 0, 1) := by decide +kernel
theorem dX7_person_3 : decode cX7_person 3 = .ok (.ldc2_w 129, 3) := by decide +kernel
theorem dX7_person_6 : decode cX7_person 6 = .ok (.invokestatic 101, 3) := by decide +kernel
theorem dX7_person_9 : decode cX7_person 9 = .ok (.ifCond .eq 25, 3) := by decide +kernel
theorem dX7_person_12 : decode cX7_person 12 = .ok (.iload_n 2, 1) := by decide +kernel
theorem dX7_person_13 : decode cX7_person 13 = .ok (.i2l, 1) := by decide +kernel
theorem dX7_person_14 : decode cX7_person 14 = .ok (.lconst 0, 1) := by decide +kernel
theorem dX7_person_15 : decode cX7_person 15 = .ok (.lconst 1, 1) := by decide +kernel
theorem dX7_person_16 : decode cX7_person 16 = .ok (.invokestatic 101, 3) := by decide +kernel
theorem dX7_person_19 : decode cX7_person 19 = .ok (.ifCond .eq 15, 3) := by decide +kernel
theorem dX7_person_22 : decode cX7_person 22 = .ok (.iload_n 3, 1) := by decide +kernel
theorem dX7_person_23 : decode cX7_person 23 = .ok (.i2l, 1) := by decide +kernel
theorem dX7_person_24 : decode cX7_person 24 = .ok (.lconst 0, 1) := by decide +kernel
theorem dX7_person_25 : decode cX7_person 25 = .ok (.ldc2_w 139, 3) := by decide +kernel
theorem dX7_person_28 : decode cX7_person 28 = .ok (.invokestatic 101, 3) := by decide +kernel
theorem dX7_person_31 : decode cX7_person 31 = .ok (.ifCond .ne 5, 3) := by decide +kernel
theorem dX7_person_34 : decode cX7_person 34 = .ok (.iconst (-1), 1) := by decide +kernel
theorem dX7_person_35 : decode cX7_person 35 = .ok (.ireturn, 1) := by decide +kernel
theorem dX7_person_36 : decode cX7_person 36 = .ok (.aload_n 0, 1) := by decide +kernel
theorem dX7_person_37 : decode cX7_person 37 = .ok (.getfield 105, 3) := by decide +kernel
theorem dX7_person_40 : decode cX7_person 40 = .ok (.bipush 14, 2) := by decide +kernel
theorem dX7_person_42 : decode cX7_person 42 = .ok (.if_icmp .ne 8, 3) := by decide +kernel
theorem dX7_person_45 : decode cX7_person 45 = .ok (.bipush (-3), 2) := by decide +kernel
theorem dX7_person_47 : decode cX7_person 47 = .ok (.goto 10, 3) := by decide +kernel
theorem dX7_person_50 : decode cX7_person 50 = .ok (.aload_n 0, 1) := by decide +kernel
theorem dX7_person_51 : decode cX7_person 51 = .ok (.iload_n 1, 1) := by decide +kernel
theorem dX7_person_52 : decode cX7_person 52 = .ok (.iload_n 2, 1) := by decide +kernel
theorem dX7_person_53 : decode cX7_person 53 = .ok (.iload_n 3, 1) := by decide +kernel
theorem dX7_person_54 : decode cX7_person 54 = .ok (.invokevirtual 141, 3) := by decide +kernel
theorem dX7_person_57 : decode cX7_person 57 = .ok (.ireturn, 1) := by decide +kernel
theorem dX7_weightOf_0 : decode cX7_weightOf 0 = .ok (.iload_n 0, 1) := by decide +kernel
theorem dX7_weightOf_1 : decode cX7_weightOf 1 = .ok (.iconst 2, 1) := by decide +kernel
theorem dX7_weightOf_2 : decode cX7_weightOf 2 = .ok (.if_icmp .ne 7, 3) := by decide +kernel
theorem dX7_weightOf_5 : decode cX7_weightOf 5 = .ok (.iconst 4, 1) := by decide +kernel
theorem dX7_weightOf_6 : decode cX7_weightOf 6 = .ok (.goto 13, 3) := by decide +kernel
theorem dX7_weightOf_9 : decode cX7_weightOf 9 = .ok (.iload_n 0, 1) := by decide +kernel
theorem dX7_weightOf_10 : decode cX7_weightOf 10 = .ok (.iconst 3, 1) := by decide +kernel
theorem dX7_weightOf_11 : decode cX7_weightOf 11 = .ok (.if_icmp .ne 7, 3) := by decide +kernel
theorem dX7_weightOf_14 : decode cX7_weightOf 14 = .ok (.iconst 1, 1) := by decide +kernel
theorem dX7_weightOf_15 : decode cX7_weightOf 15 = .ok (.goto 4, 3) := by decide +kernel
theorem dX7_weightOf_18 : decode cX7_weightOf 18 = .ok (.iconst 2, 1) := by decide +kernel
theorem dX7_weightOf_19 : decode cX7_weightOf 19 = .ok (.ireturn, 1) := by decide +kernel
theorem dX7_told_0 : decode cX7_told 0 = .ok (.aload_n 0, 1) := by decide +kernel
theorem dX7_told_1 : decode cX7_told 1 = .ok (.iload_n 1, 1) := by decide +kernel
theorem dX7_told_2 : decode cX7_told 2 = .ok (.invokevirtual 145, 3) := by decide +kernel
theorem dX7_told_5 : decode cX7_told 5 = .ok (.ifCond .eq 15, 3) := by decide +kernel
theorem dX7_told_8 : decode cX7_told 8 = .ok (.iload_n 2, 1) := by decide +kernel
theorem dX7_told_9 : decode cX7_told 9 = .ok (.i2l, 1) := by decide +kernel
theorem dX7_told_10 : decode cX7_told 10 = .ok (.lconst 0, 1) := by decide +kernel
theorem dX7_told_11 : decode cX7_told 11 = .ok (.ldc2_w 108, 3) := by decide +kernel
theorem dX7_told_14 : decode cX7_told 14 = .ok (.invokestatic 101, 3) := by decide +kernel
theorem dX7_told_17 : decode cX7_told 17 = .ok (.ifCond .ne 5, 3) := by decide +kernel
theorem dX7_told_20 : decode cX7_told 20 = .ok (.iconst (-1), 1) := by decide +kernel
theorem dX7_told_21 : decode cX7_told 21 = .ok (.ireturn, 1) := by decide +kernel
theorem dX7_told_22 : decode cX7_told 22 = .ok (.iload_n 2, 1) := by decide +kernel
theorem dX7_told_23 : decode cX7_told 23 = .ok (.iconst 3, 1) := by decide +kernel
theorem dX7_told_24 : decode cX7_told 24 = .ok (.if_icmp .ge 16, 3) := by decide +kernel
theorem dX7_told_27 : decode cX7_told 27 = .ok (.aload_n 0, 1) := by decide +kernel
theorem dX7_told_28 : decode cX7_told 28 = .ok (.getfield 16, 3) := by decide +kernel
theorem dX7_told_31 : decode cX7_told 31 = .ok (.iconst 3, 1) := by decide +kernel
theorem dX7_told_32 : decode cX7_told 32 = .ok (.iload_n 1, 1) := by decide +kernel
theorem dX7_told_33 : decode cX7_told 33 = .ok (.imul, 1) := by decide +kernel
theorem dX7_told_34 : decode cX7_told 34 = .ok (.iload_n 2, 1) := by decide +kernel
theorem dX7_told_35 : decode cX7_told 35 = .ok (.iadd, 1) := by decide +kernel
theorem dX7_told_36 : decode cX7_told 36 = .ok (.iaload, 1) := by decide +kernel
theorem dX7_told_37 : decode cX7_told 37 = .ok (.goto 16, 3) := by decide +kernel
theorem dX7_told_40 : decode cX7_told 40 = .ok (.aload_n 0, 1) := by decide +kernel
theorem dX7_told_41 : decode cX7_told 41 = .ok (.getfield 16, 3) := by decide +kernel
theorem dX7_told_44 : decode cX7_told 44 = .ok (.iconst 3, 1) := by decide +kernel
theorem dX7_told_45 : decode cX7_told 45 = .ok (.iload_n 1, 1) := by decide +kernel
theorem dX7_told_46 : decode cX7_told 46 = .ok (.imul, 1) := by decide +kernel
theorem dX7_told_47 : decode cX7_told 47 = .ok (.iconst 2, 1) := by decide +kernel
theorem dX7_told_48 : decode cX7_told 48 = .ok (.iadd, 1) := by decide +kernel
theorem dX7_told_49 : decode cX7_told 49 = .ok (.iaload, 1) := by decide +kernel
theorem dX7_told_50 : decode cX7_told 50 = .ok (.invokestatic 148, 3) := by decide +kernel
theorem dX7_told_53 : decode cX7_told 53 = .ok (.ireturn, 1) := by decide +kernel
theorem dX7_strike_0 : decode cX7_strike 0 = .ok (.aload_n 0, 1) := by decide +kernel
theorem dX7_strike_1 : decode cX7_strike 1 = .ok (.iload_n 1, 1) := by decide +kernel
theorem dX7_strike_2 : decode cX7_strike 2 = .ok (.invokevirtual 145, 3) := by decide +kernel
theorem dX7_strike_5 : decode cX7_strike 5 = .ok (.ifCond .ne 5, 3) := by decide +kernel
theorem dX7_strike_8 : decode cX7_strike 8 = .ok (.iconst (-1), 1) := by decide +kernel
theorem dX7_strike_9 : decode cX7_strike 9 = .ok (.ireturn, 1) := by decide +kernel
theorem dX7_strike_10 : decode cX7_strike 10 = .ok (.aload_n 0, 1) := by decide +kernel
theorem dX7_strike_11 : decode cX7_strike 11 = .ok (.dup, 1) := by decide +kernel
theorem dX7_strike_12 : decode cX7_strike 12 = .ok (.getfield 105, 3) := by decide +kernel
theorem dX7_strike_15 : decode cX7_strike 15 = .ok (.iconst 1, 1) := by decide +kernel
theorem dX7_strike_16 : decode cX7_strike 16 = .ok (.isub, 1) := by decide +kernel
theorem dX7_strike_17 : decode cX7_strike 17 = .ok (.putfield 105, 3) := by decide +kernel
theorem dX7_strike_20 : decode cX7_strike 20 = .ok (.iconst 3, 1) := by decide +kernel
theorem dX7_strike_21 : decode cX7_strike 21 = .ok (.iload_n 1, 1) := by decide +kernel
theorem dX7_strike_22 : decode cX7_strike 22 = .ok (.imul, 1) := by decide +kernel
theorem dX7_strike_23 : decode cX7_strike 23 = .ok (.istore_n 2, 1) := by decide +kernel
theorem dX7_strike_24 : decode cX7_strike 24 = .ok (.iload_n 2, 1) := by decide +kernel
theorem dX7_strike_25 : decode cX7_strike 25 = .ok (.iconst 3, 1) := by decide +kernel
theorem dX7_strike_26 : decode cX7_strike 26 = .ok (.aload_n 0, 1) := by decide +kernel
theorem dX7_strike_27 : decode cX7_strike 27 = .ok (.getfield 105, 3) := by decide +kernel
theorem dX7_strike_30 : decode cX7_strike 30 = .ok (.imul, 1) := by decide +kernel
theorem dX7_strike_31 : decode cX7_strike 31 = .ok (.if_icmp .ge 23, 3) := by decide +kernel
theorem dX7_strike_34 : decode cX7_strike 34 = .ok (.aload_n 0, 1) := by decide +kernel
theorem dX7_strike_35 : decode cX7_strike 35 = .ok (.getfield 16, 3) := by decide +kernel
theorem dX7_strike_38 : decode cX7_strike 38 = .ok (.iload_n 2, 1) := by decide +kernel
theorem dX7_strike_39 : decode cX7_strike 39 = .ok (.aload_n 0, 1) := by decide +kernel
theorem dX7_strike_40 : decode cX7_strike 40 = .ok (.getfield 16, 3) := by decide +kernel
theorem dX7_strike_43 : decode cX7_strike 43 = .ok (.iload_n 2, 1) := by decide +kernel
theorem dX7_strike_44 : decode cX7_strike 44 = .ok (.iconst 3, 1) := by decide +kernel
theorem dX7_strike_45 : decode cX7_strike 45 = .ok (.iadd, 1) := by decide +kernel
theorem dX7_strike_46 : decode cX7_strike 46 = .ok (.iaload, 1) := by decide +kernel
theorem dX7_strike_47 : decode cX7_strike 47 = .ok (.iastore, 1) := by decide +kernel
theorem dX7_strike_48 : decode cX7_strike 48 = .ok (.iinc 2 1, 3) := by decide +kernel
theorem dX7_strike_51 : decode cX7_strike 51 = .ok (.goto (-27), 3) := by decide +kernel
theorem dX7_strike_54 : decode cX7_strike 54 = .ok (.aload_n 0, 1) := by decide +kernel
theorem dX7_strike_55 : decode cX7_strike 55 = .ok (.getfield 105, 3) := by decide +kernel
theorem dX7_strike_58 : decode cX7_strike 58 = .ok (.ireturn, 1) := by decide +kernel
theorem dX7_type_0 : decode cX7_type 0 = .ok (.iload_n 3, 1) := by decide +kernel
theorem dX7_type_1 : decode cX7_type 1 = .ok (.i2l, 1) := by decide +kernel
theorem dX7_type_2 : decode cX7_type 2 = .ok (.lconst 1, 1) := by decide +kernel
theorem dX7_type_3 : decode cX7_type 3 = .ok (.ldc2_w 152, 3) := by decide +kernel
theorem dX7_type_6 : decode cX7_type 6 = .ok (.invokestatic 101, 3) := by decide +kernel
theorem dX7_type_9 : decode cX7_type 9 = .ok (.ifCond .ne 5, 3) := by decide +kernel
theorem dX7_type_12 : decode cX7_type 12 = .ok (.iconst (-1), 1) := by decide +kernel
theorem dX7_type_13 : decode cX7_type 13 = .ok (.ireturn, 1) := by decide +kernel
theorem dX7_type_14 : decode cX7_type 14 = .ok (.iconst 0, 1) := by decide +kernel
theorem dX7_type_15 : decode cX7_type 15 = .ok (.istore 4, 2) := by decide +kernel
theorem dX7_type_17 : decode cX7_type 17 = .ok (.iload 4, 2) := by decide +kernel
theorem dX7_type_19 : decode cX7_type 19 = .ok (.iload_n 3, 1) := by decide +kernel
theorem dX7_type_20 : decode cX7_type 20 = .ok (.if_icmp .ge 34, 3) := by decide +kernel
theorem dX7_type_23 : decode cX7_type 23 = .ok (.lload_n 1, 1) := by decide +kernel
theorem dX7_type_24 : decode cX7_type 24 = .ok (.bipush 8, 2) := by decide +kernel
theorem dX7_type_26 : decode cX7_type 26 = .ok (.iload 4, 2) := by decide +kernel
theorem dX7_type_28 : decode cX7_type 28 = .ok (.imul, 1) := by decide +kernel
theorem dX7_type_29 : decode cX7_type 29 = .ok (.lshr, 1) := by decide +kernel
theorem dX7_type_30 : decode cX7_type 30 = .ok (.ldc2_w 154, 3) := by decide +kernel
theorem dX7_type_33 : decode cX7_type 33 = .ok (.land, 1) := by decide +kernel
theorem dX7_type_34 : decode cX7_type 34 = .ok (.ldc2_w 156, 3) := by decide +kernel
theorem dX7_type_37 : decode cX7_type 37 = .ok (.ldc2_w 158, 3) := by decide +kernel
theorem dX7_type_40 : decode cX7_type 40 = .ok (.invokestatic 101, 3) := by decide +kernel
theorem dX7_type_43 : decode cX7_type 43 = .ok (.ifCond .ne 5, 3) := by decide +kernel
theorem dX7_type_46 : decode cX7_type 46 = .ok (.iconst (-1), 1) := by decide +kernel
theorem dX7_type_47 : decode cX7_type 47 = .ok (.ireturn, 1) := by decide +kernel
theorem dX7_type_48 : decode cX7_type 48 = .ok (.iinc 4 1, 3) := by decide +kernel
theorem dX7_type_51 : decode cX7_type 51 = .ok (.goto (-34), 3) := by decide +kernel
theorem dX7_type_54 : decode cX7_type 54 = .ok (.aload_n 0, 1) := by decide +kernel
theorem dX7_type_55 : decode cX7_type 55 = .ok (.getfield 160, 3) := by decide +kernel
theorem dX7_type_58 : decode cX7_type 58 = .ok (.iload_n 3, 1) := by decide +kernel
theorem dX7_type_59 : decode cX7_type 59 = .ok (.iadd, 1) := by decide +kernel
theorem dX7_type_60 : decode cX7_type 60 = .ok (.bipush 80, 2) := by decide +kernel
theorem dX7_type_62 : decode cX7_type 62 = .ok (.if_icmp .le 6, 3) := by decide +kernel
theorem dX7_type_65 : decode cX7_type 65 = .ok (.bipush (-3), 2) := by decide +kernel
theorem dX7_type_67 : decode cX7_type 67 = .ok (.ireturn, 1) := by decide +kernel
theorem dX7_type_68 : decode cX7_type 68 = .ok (.iload_n 3, 1) := by decide +kernel
theorem dX7_type_69 : decode cX7_type 69 = .ok (.iconst 1, 1) := by decide +kernel
theorem dX7_type_70 : decode cX7_type 70 = .ok (.isub, 1) := by decide +kernel
theorem dX7_type_71 : decode cX7_type 71 = .ok (.istore 4, 2) := by decide +kernel
theorem dX7_type_73 : decode cX7_type 73 = .ok (.iload 4, 2) := by decide +kernel
theorem dX7_type_75 : decode cX7_type 75 = .ok (.ifCond .lt 40, 3) := by decide +kernel
theorem dX7_type_78 : decode cX7_type 78 = .ok (.aload_n 0, 1) := by decide +kernel
theorem dX7_type_79 : decode cX7_type 79 = .ok (.getfield 19, 3) := by decide +kernel
theorem dX7_type_82 : decode cX7_type 82 = .ok (.aload_n 0, 1) := by decide +kernel
theorem dX7_type_83 : decode cX7_type 83 = .ok (.getfield 160, 3) := by decide +kernel
theorem dX7_type_86 : decode cX7_type 86 = .ok (.lload_n 1, 1) := by decide +kernel
theorem dX7_type_87 : decode cX7_type 87 = .ok (.bipush 8, 2) := by decide +kernel
theorem dX7_type_89 : decode cX7_type 89 = .ok (.iload 4, 2) := by decide +kernel
theorem dX7_type_91 : decode cX7_type 91 = .ok (.imul, 1) := by decide +kernel
theorem dX7_type_92 : decode cX7_type 92 = .ok (.lshr, 1) := by decide +kernel
theorem dX7_type_93 : decode cX7_type 93 = .ok (.ldc2_w 154, 3) := by decide +kernel
theorem dX7_type_96 : decode cX7_type 96 = .ok (.land, 1) := by decide +kernel
theorem dX7_type_97 : decode cX7_type 97 = .ok (.l2i, 1) := by decide +kernel
theorem dX7_type_98 : decode cX7_type 98 = .ok (.iastore, 1) := by decide +kernel
theorem dX7_type_99 : decode cX7_type 99 = .ok (.aload_n 0, 1) := by decide +kernel
theorem dX7_type_100 : decode cX7_type 100 = .ok (.dup, 1) := by decide +kernel
theorem dX7_type_101 : decode cX7_type 101 = .ok (.getfield 160, 3) := by decide +kernel
theorem dX7_type_104 : decode cX7_type 104 = .ok (.iconst 1, 1) := by decide +kernel
theorem dX7_type_105 : decode cX7_type 105 = .ok (.iadd, 1) := by decide +kernel
theorem dX7_type_106 : decode cX7_type 106 = .ok (.putfield 160, 3) := by decide +kernel
theorem dX7_type_109 : decode cX7_type 109 = .ok (.iinc 4 (-1), 3) := by decide +kernel
theorem dX7_type_112 : decode cX7_type 112 = .ok (.goto (-39), 3) := by decide +kernel
theorem dX7_type_115 : decode cX7_type 115 = .ok (.aload_n 0, 1) := by decide +kernel
theorem dX7_type_116 : decode cX7_type 116 = .ok (.getfield 160, 3) := by decide +kernel
theorem dX7_type_119 : decode cX7_type 119 = .ok (.ireturn, 1) := by decide +kernel
theorem dX7_here_0 : decode cX7_here 0 = .ok (.aload_n 0, 1) := by decide +kernel
theorem dX7_here_1 : decode cX7_here 1 = .ok (.getfield 163, 3) := by decide +kernel
theorem dX7_here_4 : decode cX7_here 4 = .ok (.aload_n 0, 1) := by decide +kernel
theorem dX7_here_5 : decode cX7_here 5 = .ok (.getfield 160, 3) := by decide +kernel
theorem dX7_here_8 : decode cX7_here 8 = .ok (.if_icmp .ge 30, 3) := by decide +kernel
theorem dX7_here_11 : decode cX7_here 11 = .ok (.aload_n 0, 1) := by decide +kernel
theorem dX7_here_12 : decode cX7_here 12 = .ok (.getfield 19, 3) := by decide +kernel
theorem dX7_here_15 : decode cX7_here 15 = .ok (.aload_n 0, 1) := by decide +kernel
theorem dX7_here_16 : decode cX7_here 16 = .ok (.getfield 163, 3) := by decide +kernel
theorem dX7_here_19 : decode cX7_here 19 = .ok (.iaload, 1) := by decide +kernel
theorem dX7_here_20 : decode cX7_here 20 = .ok (.bipush 32, 2) := by decide +kernel
theorem dX7_here_22 : decode cX7_here 22 = .ok (.if_icmp .ne 16, 3) := by decide +kernel
theorem dX7_here_25 : decode cX7_here 25 = .ok (.aload_n 0, 1) := by decide +kernel
theorem dX7_here_26 : decode cX7_here 26 = .ok (.dup, 1) := by decide +kernel
theorem dX7_here_27 : decode cX7_here 27 = .ok (.getfield 163, 3) := by decide +kernel
theorem dX7_here_30 : decode cX7_here 30 = .ok (.iconst 1, 1) := by decide +kernel
theorem dX7_here_31 : decode cX7_here 31 = .ok (.iadd, 1) := by decide +kernel
theorem dX7_here_32 : decode cX7_here 32 = .ok (.putfield 163, 3) := by decide +kernel
theorem dX7_here_35 : decode cX7_here 35 = .ok (.goto (-35), 3) := by decide +kernel
theorem dX7_here_38 : decode cX7_here 38 = .ok (.aload_n 0, 1) := by decide +kernel
theorem dX7_here_39 : decode cX7_here 39 = .ok (.getfield 163, 3) := by decide +kernel
theorem dX7_here_42 : decode cX7_here 42 = .ok (.aload_n 0, 1) := by decide +kernel
theorem dX7_here_43 : decode cX7_here 43 = .ok (.getfield 160, 3) := by decide +kernel
theorem dX7_here_46 : decode cX7_here 46 = .ok (.if_icmp .ge 15, 3) := by decide +kernel
theorem dX7_here_49 : decode cX7_here 49 = .ok (.aload_n 0, 1) := by decide +kernel
theorem dX7_here_50 : decode cX7_here 50 = .ok (.getfield 19, 3) := by decide +kernel
theorem dX7_here_53 : decode cX7_here 53 = .ok (.aload_n 0, 1) := by decide +kernel
theorem dX7_here_54 : decode cX7_here 54 = .ok (.getfield 163, 3) := by decide +kernel
theorem dX7_here_57 : decode cX7_here 57 = .ok (.iaload, 1) := by decide +kernel
theorem dX7_here_58 : decode cX7_here 58 = .ok (.goto 4, 3) := by decide +kernel
theorem dX7_here_61 : decode cX7_here 61 = .ok (.iconst 0, 1) := by decide +kernel
theorem dX7_here_62 : decode cX7_here 62 = .ok (.ireturn, 1) := by decide +kernel
theorem dX7_number_0 : decode cX7_number 0 = .ok (.aload_n 0, 1) := by decide +kernel
theorem dX7_number_1 : decode cX7_number 1 = .ok (.getfield 166, 3) := by decide +kernel
theorem dX7_number_4 : decode cX7_number 4 = .ok (.ifCond .ne 20, 3) := by decide +kernel
theorem dX7_number_7 : decode cX7_number 7 = .ok (.aload_n 0, 1) := by decide +kernel
theorem dX7_number_8 : decode cX7_number 8 = .ok (.invokevirtual 170, 3) := by decide +kernel
theorem dX7_number_11 : decode cX7_number 11 = .ok (.i2l, 1) := by decide +kernel
theorem dX7_number_12 : decode cX7_number 12 = .ok (.ldc2_w 174, 3) := by decide +kernel
theorem dX7_number_15 : decode cX7_number 15 = .ok (.ldc2_w 176, 3) := by decide +kernel
theorem dX7_number_18 : decode cX7_number 18 = .ok (.invokestatic 101, 3) := by decide +kernel
theorem dX7_number_21 : decode cX7_number 21 = .ok (.ifCond .ne 10, 3) := by decide +kernel
theorem dX7_number_24 : decode cX7_number 24 = .ok (.aload_n 0, 1) := by decide +kernel
theorem dX7_number_25 : decode cX7_number 25 = .ok (.iconst 1, 1) := by decide +kernel
theorem dX7_number_26 : decode cX7_number 26 = .ok (.putfield 166, 3) := by decide +kernel
theorem dX7_number_29 : decode cX7_number 29 = .ok (.iconst 0, 1) := by decide +kernel
theorem dX7_number_30 : decode cX7_number 30 = .ok (.ireturn, 1) := by decide +kernel
theorem dX7_number_31 : decode cX7_number 31 = .ok (.aload_n 0, 1) := by decide +kernel
theorem dX7_number_32 : decode cX7_number 32 = .ok (.getfield 163, 3) := by decide +kernel
theorem dX7_number_35 : decode cX7_number 35 = .ok (.istore_n 2, 1) := by decide +kernel
theorem dX7_number_36 : decode cX7_number 36 = .ok (.iconst 0, 1) := by decide +kernel
theorem dX7_number_37 : decode cX7_number 37 = .ok (.istore_n 3, 1) := by decide +kernel
theorem dX7_number_38 : decode cX7_number 38 = .ok (.aload_n 0, 1) := by decide +kernel
theorem dX7_number_39 : decode cX7_number 39 = .ok (.getfield 163, 3) := by decide +kernel
theorem dX7_number_42 : decode cX7_number 42 = .ok (.aload_n 0, 1) := by decide +kernel
theorem dX7_number_43 : decode cX7_number 43 = .ok (.getfield 160, 3) := by decide +kernel
theorem dX7_number_46 : decode cX7_number 46 = .ok (.if_icmp .ge 67, 3) := by decide +kernel
theorem dX7_number_49 : decode cX7_number 49 = .ok (.aload_n 0, 1) := by decide +kernel
theorem dX7_number_50 : decode cX7_number 50 = .ok (.getfield 19, 3) := by decide +kernel
theorem dX7_number_53 : decode cX7_number 53 = .ok (.aload_n 0, 1) := by decide +kernel
theorem dX7_number_54 : decode cX7_number 54 = .ok (.getfield 163, 3) := by decide +kernel
theorem dX7_number_57 : decode cX7_number 57 = .ok (.iaload, 1) := by decide +kernel
theorem dX7_number_58 : decode cX7_number 58 = .ok (.i2l, 1) := by decide +kernel
theorem dX7_number_59 : decode cX7_number 59 = .ok (.ldc2_w 174, 3) := by decide +kernel
theorem dX7_number_62 : decode cX7_number 62 = .ok (.ldc2_w 176, 3) := by decide +kernel
theorem dX7_number_65 : decode cX7_number 65 = .ok (.invokestatic 101, 3) := by decide +kernel
theorem dX7_number_68 : decode cX7_number 68 = .ok (.ifCond .eq 45, 3) := by decide +kernel
theorem dX7_number_71 : decode cX7_number 71 = .ok (.iload_n 3, 1) := by decide +kernel
theorem dX7_number_72 : decode cX7_number 72 = .ok (.sipush 999, 3) := by decide +kernel
theorem dX7_number_75 : decode cX7_number 75 = .ok (.if_icmp .le 7, 3) := by decide +kernel
theorem dX7_number_78 : decode cX7_number 78 = .ok (.iload_n 3, 1) := by decide +kernel
theorem dX7_number_79 : decode cX7_number 79 = .ok (.goto 20, 3) := by decide +kernel
theorem dX7_number_82 : decode cX7_number 82 = .ok (.bipush 10, 2) := by decide +kernel
theorem dX7_number_84 : decode cX7_number 84 = .ok (.iload_n 3, 1) := by decide +kernel
theorem dX7_number_85 : decode cX7_number 85 = .ok (.imul, 1) := by decide +kernel
theorem dX7_number_86 : decode cX7_number 86 = .ok (.aload_n 0, 1) := by decide +kernel
theorem dX7_number_87 : decode cX7_number 87 = .ok (.getfield 19, 3) := by decide +kernel
theorem dX7_number_90 : decode cX7_number 90 = .ok (.aload_n 0, 1) := by decide +kernel
theorem dX7_number_91 : decode cX7_number 91 = .ok (.getfield 163, 3) := by decide +kernel
theorem dX7_number_94 : decode cX7_number 94 = .ok (.iaload, 1) := by decide +kernel
theorem dX7_number_95 : decode cX7_number 95 = .ok (.iadd, 1) := by decide +kernel
theorem dX7_number_96 : decode cX7_number 96 = .ok (.bipush 48, 2) := by decide +kernel
theorem dX7_number_98 : decode cX7_number 98 = .ok (.isub, 1) := by decide +kernel
theorem dX7_number_99 : decode cX7_number 99 = .ok (.istore_n 3, 1) := by decide +kernel
theorem dX7_number_100 : decode cX7_number 100 = .ok (.aload_n 0, 1) := by decide +kernel
theorem dX7_number_101 : decode cX7_number 101 = .ok (.dup, 1) := by decide +kernel
theorem dX7_number_102 : decode cX7_number 102 = .ok (.getfield 163, 3) := by decide +kernel
theorem dX7_number_105 : decode cX7_number 105 = .ok (.iconst 1, 1) := by decide +kernel
theorem dX7_number_106 : decode cX7_number 106 = .ok (.iadd, 1) := by decide +kernel
theorem dX7_number_107 : decode cX7_number 107 = .ok (.putfield 163, 3) := by decide +kernel
theorem dX7_number_110 : decode cX7_number 110 = .ok (.goto (-72), 3) := by decide +kernel
theorem dX7_number_113 : decode cX7_number 113 = .ok (.aload_n 0, 1) := by decide +kernel
theorem dX7_number_114 : decode cX7_number 114 = .ok (.iload_n 3, 1) := by decide +kernel
theorem dX7_number_115 : decode cX7_number 115 = .ok (.iload_n 1, 1) := by decide +kernel
theorem dX7_number_116 : decode cX7_number 116 = .ok (.if_icmp .le 7, 3) := by decide +kernel
theorem dX7_number_119 : decode cX7_number 119 = .ok (.iconst 1, 1) := by decide +kernel
theorem dX7_number_120 : decode cX7_number 120 = .ok (.goto 4, 3) := by decide +kernel
theorem dX7_number_123 : decode cX7_number 123 = .ok (.iconst 0, 1) := by decide +kernel
theorem dX7_number_124 : decode cX7_number 124 = .ok (.putfield 166, 3) := by decide +kernel
theorem dX7_number_127 : decode cX7_number 127 = .ok (.aload_n 0, 1) := by decide +kernel
theorem dX7_number_128 : decode cX7_number 128 = .ok (.aload_n 0, 1) := by decide +kernel
theorem dX7_number_129 : decode cX7_number 129 = .ok (.getfield 166, 3) := by decide +kernel
theorem dX7_number_132 : decode cX7_number 132 = .ok (.ifCond .eq 7, 3) := by decide +kernel
theorem dX7_number_135 : decode cX7_number 135 = .ok (.iload_n 2, 1) := by decide +kernel
theorem dX7_number_136 : decode cX7_number 136 = .ok (.goto 7, 3) := by decide +kernel
theorem dX7_number_139 : decode cX7_number 139 = .ok (.aload_n 0, 1) := by decide +kernel
theorem dX7_number_140 : decode cX7_number 140 = .ok (.getfield 163, 3) := by decide +kernel
theorem dX7_number_143 : decode cX7_number 143 = .ok (.putfield 163, 3) := by decide +kernel
theorem dX7_number_146 : decode cX7_number 146 = .ok (.iload_n 3, 1) := by decide +kernel
theorem dX7_number_147 : decode cX7_number 147 = .ok (.ireturn, 1) := by decide +kernel
theorem dX7_letter_0 : decode cX7_letter 0 = .ok (.aload_n 0, 1) := by decide +kernel
theorem dX7_letter_1 : decode cX7_letter 1 = .ok (.getfield 166, 3) := by decide +kernel
theorem dX7_letter_4 : decode cX7_letter 4 = .ok (.ifCond .eq 7, 3) := by decide +kernel
theorem dX7_letter_7 : decode cX7_letter 7 = .ok (.iconst 0, 1) := by decide +kernel
theorem dX7_letter_8 : decode cX7_letter 8 = .ok (.goto 7, 3) := by decide +kernel
theorem dX7_letter_11 : decode cX7_letter 11 = .ok (.aload_n 0, 1) := by decide +kernel
theorem dX7_letter_12 : decode cX7_letter 12 = .ok (.invokevirtual 170, 3) := by decide +kernel
theorem dX7_letter_15 : decode cX7_letter 15 = .ok (.istore 6, 2) := by decide +kernel
theorem dX7_letter_17 : decode cX7_letter 17 = .ok (.iload 6, 2) := by decide +kernel
theorem dX7_letter_19 : decode cX7_letter 19 = .ok (.ifCond .ne 8, 3) := by decide +kernel
theorem dX7_letter_22 : decode cX7_letter 22 = .ok (.bipush (-4), 2) := by decide +kernel
theorem dX7_letter_24 : decode cX7_letter 24 = .ok (.goto 57, 3) := by decide +kernel
theorem dX7_letter_27 : decode cX7_letter 27 = .ok (.iload 6, 2) := by decide +kernel
theorem dX7_letter_29 : decode cX7_letter 29 = .ok (.iload_n 1, 1) := by decide +kernel
theorem dX7_letter_30 : decode cX7_letter 30 = .ok (.if_icmp .ne 7, 3) := by decide +kernel
theorem dX7_letter_33 : decode cX7_letter 33 = .ok (.iconst 0, 1) := by decide +kernel
theorem dX7_letter_34 : decode cX7_letter 34 = .ok (.goto 47, 3) := by decide +kernel
theorem dX7_letter_37 : decode cX7_letter 37 = .ok (.iload 6, 2) := by decide +kernel
theorem dX7_letter_39 : decode cX7_letter 39 = .ok (.iload_n 2, 1) := by decide +kernel
theorem dX7_letter_40 : decode cX7_letter 40 = .ok (.if_icmp .ne 7, 3) := by decide +kernel
theorem dX7_letter_43 : decode cX7_letter 43 = .ok (.iconst 1, 1) := by decide +kernel
theorem dX7_letter_44 : decode cX7_letter 44 = .ok (.goto 37, 3) := by decide +kernel
theorem dX7_letter_47 : decode cX7_letter 47 = .ok (.iload 6, 2) := by decide +kernel
theorem dX7_letter_49 : decode cX7_letter 49 = .ok (.iload_n 3, 1) := by decide +kernel
theorem dX7_letter_50 : decode cX7_letter 50 = .ok (.if_icmp .ne 7, 3) := by decide +kernel
theorem dX7_letter_53 : decode cX7_letter 53 = .ok (.iconst 2, 1) := by decide +kernel
theorem dX7_letter_54 : decode cX7_letter 54 = .ok (.goto 27, 3) := by decide +kernel
theorem dX7_letter_57 : decode cX7_letter 57 = .ok (.iload 6, 2) := by decide +kernel
theorem dX7_letter_59 : decode cX7_letter 59 = .ok (.iload 4, 2) := by decide +kernel
theorem dX7_letter_61 : decode cX7_letter 61 = .ok (.if_icmp .ne 7, 3) := by decide +kernel
theorem dX7_letter_64 : decode cX7_letter 64 = .ok (.iconst 3, 1) := by decide +kernel
theorem dX7_letter_65 : decode cX7_letter 65 = .ok (.goto 16, 3) := by decide +kernel
theorem dX7_letter_68 : decode cX7_letter 68 = .ok (.iload 6, 2) := by decide +kernel
theorem dX7_letter_70 : decode cX7_letter 70 = .ok (.iload 5, 2) := by decide +kernel
theorem dX7_letter_72 : decode cX7_letter 72 = .ok (.if_icmp .ne 7, 3) := by decide +kernel
theorem dX7_letter_75 : decode cX7_letter 75 = .ok (.iconst 4, 1) := by decide +kernel
theorem dX7_letter_76 : decode cX7_letter 76 = .ok (.goto 5, 3) := by decide +kernel
theorem dX7_letter_79 : decode cX7_letter 79 = .ok (.bipush (-4), 2) := by decide +kernel
theorem dX7_letter_81 : decode cX7_letter 81 = .ok (.istore 7, 2) := by decide +kernel
theorem dX7_letter_83 : decode cX7_letter 83 = .ok (.aload_n 0, 1) := by decide +kernel
theorem dX7_letter_84 : decode cX7_letter 84 = .ok (.aload_n 0, 1) := by decide +kernel
theorem dX7_letter_85 : decode cX7_letter 85 = .ok (.getfield 166, 3) := by decide +kernel
theorem dX7_letter_88 : decode cX7_letter 88 = .ok (.ifCond .ne 8, 3) := by decide +kernel
theorem dX7_letter_91 : decode cX7_letter 91 = .ok (.iload 7, 2) := by decide +kernel
theorem dX7_letter_93 : decode cX7_letter 93 = .ok (.ifCond .ge 7, 3) := by decide +kernel
theorem dX7_letter_96 : decode cX7_letter 96 = .ok (.iconst 1, 1) := by decide +kernel
theorem dX7_letter_97 : decode cX7_letter 97 = .ok (.goto 4, 3) := by decide +kernel
theorem dX7_letter_100 : decode cX7_letter 100 = .ok (.iconst 0, 1) := by decide +kernel
theorem dX7_letter_101 : decode cX7_letter 101 = .ok (.putfield 166, 3) := by decide +kernel
theorem dX7_letter_104 : decode cX7_letter 104 = .ok (.aload_n 0, 1) := by decide +kernel
theorem dX7_letter_105 : decode cX7_letter 105 = .ok (.dup, 1) := by decide +kernel
theorem dX7_letter_106 : decode cX7_letter 106 = .ok (.getfield 163, 3) := by decide +kernel
theorem dX7_letter_109 : decode cX7_letter 109 = .ok (.aload_n 0, 1) := by decide +kernel
theorem dX7_letter_110 : decode cX7_letter 110 = .ok (.getfield 166, 3) := by decide +kernel
theorem dX7_letter_113 : decode cX7_letter 113 = .ok (.ifCond .eq 7, 3) := by decide +kernel
theorem dX7_letter_116 : decode cX7_letter 116 = .ok (.iconst 0, 1) := by decide +kernel
theorem dX7_letter_117 : decode cX7_letter 117 = .ok (.goto 4, 3) := by decide +kernel
theorem dX7_letter_120 : decode cX7_letter 120 = .ok (.iconst 1, 1) := by decide +kernel
theorem dX7_letter_121 : decode cX7_letter 121 = .ok (.iadd, 1) := by decide +kernel
theorem dX7_letter_122 : decode cX7_letter 122 = .ok (.putfield 163, 3) := by decide +kernel
theorem dX7_letter_125 : decode cX7_letter 125 = .ok (.iload 7, 2) := by decide +kernel
theorem dX7_letter_127 : decode cX7_letter 127 = .ok (.ireturn, 1) := by decide +kernel
theorem dX7_people_0 : decode cX7_people 0 = .ok (.aload_n 0, 1) := by decide +kernel
theorem dX7_people_1 : decode cX7_people 1 = .ok (.iconst 0, 1) := by decide +kernel
theorem dX7_people_2 : decode cX7_people 2 = .ok (.putfield 163, 3) := by decide +kernel
theorem dX7_people_5 : decode cX7_people 5 = .ok (.aload_n 0, 1) := by decide +kernel
theorem dX7_people_6 : decode cX7_people 6 = .ok (.iconst 0, 1) := by decide +kernel
theorem dX7_people_7 : decode cX7_people 7 = .ok (.putfield 166, 3) := by decide +kernel
theorem dX7_people_10 : decode cX7_people 10 = .ok (.iconst 0, 1) := by decide +kernel
theorem dX7_people_11 : decode cX7_people 11 = .ok (.istore_n 1, 1) := by decide +kernel
theorem dX7_people_12 : decode cX7_people 12 = .ok (.iconst 1, 1) := by decide +kernel
theorem dX7_people_13 : decode cX7_people 13 = .ok (.istore_n 2, 1) := by decide +kernel
theorem dX7_people_14 : decode cX7_people 14 = .ok (.iload_n 2, 1) := by decide +kernel
theorem dX7_people_15 : decode cX7_people 15 = .ok (.ifCond .eq 114, 3) := by decide +kernel
theorem dX7_people_18 : decode cX7_people 18 = .ok (.aload_n 0, 1) := by decide +kernel
theorem dX7_people_19 : decode cX7_people 19 = .ok (.getfield 22, 3) := by decide +kernel
theorem dX7_people_22 : decode cX7_people 22 = .ok (.iconst 3, 1) := by decide +kernel
theorem dX7_people_23 : decode cX7_people 23 = .ok (.iload_n 1, 1) := by decide +kernel
theorem dX7_people_24 : decode cX7_people 24 = .ok (.imul, 1) := by decide +kernel
theorem dX7_people_25 : decode cX7_people 25 = .ok (.aload_n 0, 1) := by decide +kernel
theorem dX7_people_26 : decode cX7_people 26 = .ok (.bipush 99, 2) := by decide +kernel
theorem dX7_people_28 : decode cX7_people 28 = .ok (.invokevirtual 178, 3) := by decide +kernel
theorem dX7_people_31 : decode cX7_people 31 = .ok (.iastore, 1) := by decide +kernel
theorem dX7_people_32 : decode cX7_people 32 = .ok (.aload_n 0, 1) := by decide +kernel
theorem dX7_people_33 : decode cX7_people 33 = .ok (.getfield 22, 3) := by decide +kernel
theorem dX7_people_36 : decode cX7_people 36 = .ok (.iconst 3, 1) := by decide +kernel
theorem dX7_people_37 : decode cX7_people 37 = .ok (.iload_n 1, 1) := by decide +kernel
theorem dX7_people_38 : decode cX7_people 38 = .ok (.imul, 1) := by decide +kernel
theorem dX7_people_39 : decode cX7_people 39 = .ok (.iconst 1, 1) := by decide +kernel
theorem dX7_people_40 : decode cX7_people 40 = .ok (.iadd, 1) := by decide +kernel
theorem dX7_people_41 : decode cX7_people 41 = .ok (.aload_n 0, 1) := by decide +kernel
theorem dX7_people_42 : decode cX7_people 42 = .ok (.bipush 117, 2) := by decide +kernel
theorem dX7_people_44 : decode cX7_people 44 = .ok (.bipush 100, 2) := by decide +kernel
theorem dX7_people_46 : decode cX7_people 46 = .ok (.iconst (-1), 1) := by decide +kernel
theorem dX7_people_47 : decode cX7_people 47 = .ok (.iconst (-1), 1) := by decide +kernel
theorem dX7_people_48 : decode cX7_people 48 = .ok (.iconst (-1), 1) := by decide +kernel
theorem dX7_people_49 : decode cX7_people 49 = .ok (.invokevirtual 181, 3) := by decide +kernel
theorem dX7_people_52 : decode cX7_people 52 = .ok (.iastore, 1) := by decide +kernel
theorem dX7_people_53 : decode cX7_people 53 = .ok (.aload_n 0, 1) := by decide +kernel
theorem dX7_people_54 : decode cX7_people 54 = .ok (.getfield 22, 3) := by decide +kernel
theorem dX7_people_57 : decode cX7_people 57 = .ok (.iconst 3, 1) := by decide +kernel
theorem dX7_people_58 : decode cX7_people 58 = .ok (.iload_n 1, 1) := by decide +kernel
theorem dX7_people_59 : decode cX7_people 59 = .ok (.imul, 1) := by decide +kernel
theorem dX7_people_60 : decode cX7_people 60 = .ok (.iconst 2, 1) := by decide +kernel
theorem dX7_people_61 : decode cX7_people 61 = .ok (.iadd, 1) := by decide +kernel
theorem dX7_people_62 : decode cX7_people 62 = .ok (.aload_n 0, 1) := by decide +kernel
theorem dX7_people_63 : decode cX7_people 63 = .ok (.bipush 115, 2) := by decide +kernel
theorem dX7_people_65 : decode cX7_people 65 = .ok (.bipush 119, 2) := by decide +kernel
theorem dX7_people_67 : decode cX7_people 67 = .ok (.bipush 98, 2) := by decide +kernel
theorem dX7_people_69 : decode cX7_people 69 = .ok (.bipush 99, 2) := by decide +kernel
theorem dX7_people_71 : decode cX7_people 71 = .ok (.bipush 102, 2) := by decide +kernel
theorem dX7_people_73 : decode cX7_people 73 = .ok (.invokevirtual 181, 3) := by decide +kernel
theorem dX7_people_76 : decode cX7_people 76 = .ok (.iastore, 1) := by decide +kernel
theorem dX7_people_77 : decode cX7_people 77 = .ok (.iinc 1 1, 3) := by decide +kernel
theorem dX7_people_80 : decode cX7_people 80 = .ok (.aload_n 0, 1) := by decide +kernel
theorem dX7_people_81 : decode cX7_people 81 = .ok (.getfield 166, 3) := by decide +kernel
theorem dX7_people_84 : decode cX7_people 84 = .ok (.ifCond .ne 22, 3) := by decide +kernel
theorem dX7_people_87 : decode cX7_people 87 = .ok (.iload_n 1, 1) := by decide +kernel
theorem dX7_people_88 : decode cX7_people 88 = .ok (.bipush 8, 2) := by decide +kernel
theorem dX7_people_90 : decode cX7_people 90 = .ok (.if_icmp .ge 16, 3) := by decide +kernel
theorem dX7_people_93 : decode cX7_people 93 = .ok (.aload_n 0, 1) := by decide +kernel
theorem dX7_people_94 : decode cX7_people 94 = .ok (.invokevirtual 170, 3) := by decide +kernel
theorem dX7_people_97 : decode cX7_people 97 = .ok (.bipush 59, 2) := by decide +kernel
theorem dX7_people_99 : decode cX7_people 99 = .ok (.if_icmp .ne 7, 3) := by decide +kernel
theorem dX7_people_102 : decode cX7_people 102 = .ok (.iconst 1, 1) := by decide +kernel
theorem dX7_people_103 : decode cX7_people 103 = .ok (.goto 4, 3) := by decide +kernel
theorem dX7_people_106 : decode cX7_people 106 = .ok (.iconst 0, 1) := by decide +kernel
theorem dX7_people_107 : decode cX7_people 107 = .ok (.istore_n 2, 1) := by decide +kernel
theorem dX7_people_108 : decode cX7_people 108 = .ok (.aload_n 0, 1) := by decide +kernel
theorem dX7_people_109 : decode cX7_people 109 = .ok (.dup, 1) := by decide +kernel
theorem dX7_people_110 : decode cX7_people 110 = .ok (.getfield 163, 3) := by decide +kernel
theorem dX7_people_113 : decode cX7_people 113 = .ok (.iload_n 2, 1) := by decide +kernel
theorem dX7_people_114 : decode cX7_people 114 = .ok (.ifCond .eq 7, 3) := by decide +kernel
theorem dX7_people_117 : decode cX7_people 117 = .ok (.iconst 1, 1) := by decide +kernel
theorem dX7_people_118 : decode cX7_people 118 = .ok (.goto 4, 3) := by decide +kernel
theorem dX7_people_121 : decode cX7_people 121 = .ok (.iconst 0, 1) := by decide +kernel
theorem dX7_people_122 : decode cX7_people 122 = .ok (.iadd, 1) := by decide +kernel
theorem dX7_people_123 : decode cX7_people 123 = .ok (.putfield 163, 3) := by decide +kernel
theorem dX7_people_126 : decode cX7_people 126 = .ok (.goto (-112), 3) := by decide +kernel
theorem dX7_people_129 : decode cX7_people 129 = .ok (.aload_n 0, 1) := by decide +kernel
theorem dX7_people_130 : decode cX7_people 130 = .ok (.aload_n 0, 1) := by decide +kernel
theorem dX7_people_131 : decode cX7_people 131 = .ok (.getfield 166, 3) := by decide +kernel
theorem dX7_people_134 : decode cX7_people 134 = .ok (.ifCond .ne 10, 3) := by decide +kernel
theorem dX7_people_137 : decode cX7_people 137 = .ok (.aload_n 0, 1) := by decide +kernel
theorem dX7_people_138 : decode cX7_people 138 = .ok (.invokevirtual 170, 3) := by decide +kernel
theorem dX7_people_141 : decode cX7_people 141 = .ok (.ifCond .eq 7, 3) := by decide +kernel
theorem dX7_people_144 : decode cX7_people 144 = .ok (.iconst 1, 1) := by decide +kernel
theorem dX7_people_145 : decode cX7_people 145 = .ok (.goto 4, 3) := by decide +kernel
theorem dX7_people_148 : decode cX7_people 148 = .ok (.iconst 0, 1) := by decide +kernel
theorem dX7_people_149 : decode cX7_people 149 = .ok (.putfield 166, 3) := by decide +kernel
theorem dX7_people_152 : decode cX7_people 152 = .ok (.aload_n 0, 1) := by decide +kernel
theorem dX7_people_153 : decode cX7_people 153 = .ok (.iconst 0, 1) := by decide +kernel
theorem dX7_people_154 : decode cX7_people 154 = .ok (.putfield 160, 3) := by decide +kernel
theorem dX7_people_157 : decode cX7_people 157 = .ok (.aload_n 0, 1) := by decide +kernel
theorem dX7_people_158 : decode cX7_people 158 = .ok (.getfield 166, 3) := by decide +kernel
theorem dX7_people_161 : decode cX7_people 161 = .ok (.ifCond .eq 11, 3) := by decide +kernel
theorem dX7_people_164 : decode cX7_people 164 = .ok (.bipush (-20), 2) := by decide +kernel
theorem dX7_people_166 : decode cX7_people 166 = .ok (.aload_n 0, 1) := by decide +kernel
theorem dX7_people_167 : decode cX7_people 167 = .ok (.getfield 163, 3) := by decide +kernel
theorem dX7_people_170 : decode cX7_people 170 = .ok (.isub, 1) := by decide +kernel
theorem dX7_people_171 : decode cX7_people 171 = .ok (.ireturn, 1) := by decide +kernel
theorem dX7_people_172 : decode cX7_people 172 = .ok (.aload_n 0, 1) := by decide +kernel
theorem dX7_people_173 : decode cX7_people 173 = .ok (.getfield 105, 3) := by decide +kernel
theorem dX7_people_176 : decode cX7_people 176 = .ok (.iload_n 1, 1) := by decide +kernel
theorem dX7_people_177 : decode cX7_people 177 = .ok (.iadd, 1) := by decide +kernel
theorem dX7_people_178 : decode cX7_people 178 = .ok (.bipush 14, 2) := by decide +kernel
theorem dX7_people_180 : decode cX7_people 180 = .ok (.if_icmp .le 6, 3) := by decide +kernel
theorem dX7_people_183 : decode cX7_people 183 = .ok (.bipush (-3), 2) := by decide +kernel
theorem dX7_people_185 : decode cX7_people 185 = .ok (.ireturn, 1) := by decide +kernel
theorem dX7_people_186 : decode cX7_people 186 = .ok (.iconst 0, 1) := by decide +kernel
theorem dX7_people_187 : decode cX7_people 187 = .ok (.istore_n 3, 1) := by decide +kernel
theorem dX7_people_188 : decode cX7_people 188 = .ok (.iload_n 3, 1) := by decide +kernel
theorem dX7_people_189 : decode cX7_people 189 = .ok (.iconst 3, 1) := by decide +kernel
theorem dX7_people_190 : decode cX7_people 190 = .ok (.iload_n 1, 1) := by decide +kernel
theorem dX7_people_191 : decode cX7_people 191 = .ok (.imul, 1) := by decide +kernel
theorem dX7_people_192 : decode cX7_people 192 = .ok (.if_icmp .ge 36, 3) := by decide +kernel
theorem dX7_people_195 : decode cX7_people 195 = .ok (.aload_n 0, 1) := by decide +kernel
theorem dX7_people_196 : decode cX7_people 196 = .ok (.aload_n 0, 1) := by decide +kernel
theorem dX7_people_197 : decode cX7_people 197 = .ok (.getfield 22, 3) := by decide +kernel
theorem dX7_people_200 : decode cX7_people 200 = .ok (.iload_n 3, 1) := by decide +kernel
theorem dX7_people_201 : decode cX7_people 201 = .ok (.iaload, 1) := by decide +kernel
theorem dX7_people_202 : decode cX7_people 202 = .ok (.aload_n 0, 1) := by decide +kernel
theorem dX7_people_203 : decode cX7_people 203 = .ok (.getfield 22, 3) := by decide +kernel
theorem dX7_people_206 : decode cX7_people 206 = .ok (.iload_n 3, 1) := by decide +kernel
theorem dX7_people_207 : decode cX7_people 207 = .ok (.iconst 1, 1) := by decide +kernel
theorem dX7_people_208 : decode cX7_people 208 = .ok (.iadd, 1) := by decide +kernel
theorem dX7_people_209 : decode cX7_people 209 = .ok (.iaload, 1) := by decide +kernel
theorem dX7_people_210 : decode cX7_people 210 = .ok (.aload_n 0, 1) := by decide +kernel
theorem dX7_people_211 : decode cX7_people 211 = .ok (.getfield 22, 3) := by decide +kernel
theorem dX7_people_214 : decode cX7_people 214 = .ok (.iload_n 3, 1) := by decide +kernel
theorem dX7_people_215 : decode cX7_people 215 = .ok (.iconst 2, 1) := by decide +kernel
theorem dX7_people_216 : decode cX7_people 216 = .ok (.iadd, 1) := by decide +kernel
theorem dX7_people_217 : decode cX7_people 217 = .ok (.iaload, 1) := by decide +kernel
theorem dX7_people_218 : decode cX7_people 218 = .ok (.invokevirtual 141, 3) := by decide +kernel
theorem dX7_people_221 : decode cX7_people 221 = .ok (.pop, 1) := by decide +kernel
theorem dX7_people_222 : decode cX7_people 222 = .ok (.iinc 3 3, 3) := by decide +kernel
theorem dX7_people_225 : decode cX7_people 225 = .ok (.goto (-37), 3) := by decide +kernel
theorem dX7_people_228 : decode cX7_people 228 = .ok (.iload_n 1, 1) := by decide +kernel
theorem dX7_people_229 : decode cX7_people 229 = .ok (.ireturn, 1) := by decide +kernel
theorem dX7_count_0 : decode cX7_count 0 = .ok (.iconst 0, 1) := by decide +kernel
theorem dX7_count_1 : decode cX7_count 1 = .ok (.istore_n 2, 1) := by decide +kernel
theorem dX7_count_2 : decode cX7_count 2 = .ok (.iconst 0, 1) := by decide +kernel
theorem dX7_count_3 : decode cX7_count 3 = .ok (.istore_n 3, 1) := by decide +kernel
theorem dX7_count_4 : decode cX7_count 4 = .ok (.iload_n 3, 1) := by decide +kernel
theorem dX7_count_5 : decode cX7_count 5 = .ok (.aload_n 0, 1) := by decide +kernel
theorem dX7_count_6 : decode cX7_count 6 = .ok (.getfield 105, 3) := by decide +kernel
theorem dX7_count_9 : decode cX7_count 9 = .ok (.if_icmp .ge 30, 3) := by decide +kernel
theorem dX7_count_12 : decode cX7_count 12 = .ok (.iload_n 2, 1) := by decide +kernel
theorem dX7_count_13 : decode cX7_count 13 = .ok (.aload_n 0, 1) := by decide +kernel
theorem dX7_count_14 : decode cX7_count 14 = .ok (.getfield 16, 3) := by decide +kernel
theorem dX7_count_17 : decode cX7_count 17 = .ok (.iconst 3, 1) := by decide +kernel
theorem dX7_count_18 : decode cX7_count 18 = .ok (.iload_n 3, 1) := by decide +kernel
theorem dX7_count_19 : decode cX7_count 19 = .ok (.imul, 1) := by decide +kernel
theorem dX7_count_20 : decode cX7_count 20 = .ok (.iconst 1, 1) := by decide +kernel
theorem dX7_count_21 : decode cX7_count 21 = .ok (.iadd, 1) := by decide +kernel
theorem dX7_count_22 : decode cX7_count 22 = .ok (.iaload, 1) := by decide +kernel
theorem dX7_count_23 : decode cX7_count 23 = .ok (.ifCond .ne 7, 3) := by decide +kernel
theorem dX7_count_26 : decode cX7_count 26 = .ok (.iconst 1, 1) := by decide +kernel
theorem dX7_count_27 : decode cX7_count 27 = .ok (.goto 4, 3) := by decide +kernel
theorem dX7_count_30 : decode cX7_count 30 = .ok (.iconst 0, 1) := by decide +kernel
theorem dX7_count_31 : decode cX7_count 31 = .ok (.iadd, 1) := by decide +kernel
theorem dX7_count_32 : decode cX7_count 32 = .ok (.istore_n 2, 1) := by decide +kernel
theorem dX7_count_33 : decode cX7_count 33 = .ok (.iinc 3 1, 3) := by decide +kernel
theorem dX7_count_36 : decode cX7_count 36 = .ok (.goto (-32), 3) := by decide +kernel
theorem dX7_count_39 : decode cX7_count 39 = .ok (.iload_n 1, 1) := by decide +kernel
theorem dX7_count_40 : decode cX7_count 40 = .ok (.ifCond .ne 10, 3) := by decide +kernel
theorem dX7_count_43 : decode cX7_count 43 = .ok (.aload_n 0, 1) := by decide +kernel
theorem dX7_count_44 : decode cX7_count 44 = .ok (.getfield 97, 3) := by decide +kernel
theorem dX7_count_47 : decode cX7_count 47 = .ok (.goto 25, 3) := by decide +kernel
theorem dX7_count_50 : decode cX7_count 50 = .ok (.iload_n 1, 1) := by decide +kernel
theorem dX7_count_51 : decode cX7_count 51 = .ok (.iconst 1, 1) := by decide +kernel
theorem dX7_count_52 : decode cX7_count 52 = .ok (.if_icmp .ne 10, 3) := by decide +kernel
theorem dX7_count_55 : decode cX7_count 55 = .ok (.aload_n 0, 1) := by decide +kernel
theorem dX7_count_56 : decode cX7_count 56 = .ok (.getfield 105, 3) := by decide +kernel
theorem dX7_count_59 : decode cX7_count 59 = .ok (.goto 13, 3) := by decide +kernel
theorem dX7_count_62 : decode cX7_count 62 = .ok (.iload_n 1, 1) := by decide +kernel
theorem dX7_count_63 : decode cX7_count 63 = .ok (.iconst 2, 1) := by decide +kernel
theorem dX7_count_64 : decode cX7_count 64 = .ok (.if_icmp .ne 7, 3) := by decide +kernel
theorem dX7_count_67 : decode cX7_count 67 = .ok (.iload_n 2, 1) := by decide +kernel
theorem dX7_count_68 : decode cX7_count 68 = .ok (.goto 4, 3) := by decide +kernel
theorem dX7_count_71 : decode cX7_count 71 = .ok (.iconst (-1), 1) := by decide +kernel
theorem dX7_count_72 : decode cX7_count 72 = .ok (.ireturn, 1) := by decide +kernel
theorem dX7_asTold_0 : decode cX7_asTold 0 = .ok (.aload_n 0, 1) := by decide +kernel
theorem dX7_asTold_1 : decode cX7_asTold 1 = .ok (.getfield 136, 3) := by decide +kernel
theorem dX7_asTold_4 : decode cX7_asTold 4 = .ok (.istore_n 1, 1) := by decide +kernel
theorem dX7_asTold_5 : decode cX7_asTold 5 = .ok (.iconst 0, 1) := by decide +kernel
theorem dX7_asTold_6 : decode cX7_asTold 6 = .ok (.istore_n 2, 1) := by decide +kernel
theorem dX7_asTold_7 : decode cX7_asTold 7 = .ok (.iload_n 2, 1) := by decide +kernel
theorem dX7_asTold_8 : decode cX7_asTold 8 = .ok (.iconst 3, 1) := by decide +kernel
theorem dX7_asTold_9 : decode cX7_asTold 9 = .ok (.if_icmp .ge 70, 3) := by decide +kernel
theorem dX7_asTold_12 : decode cX7_asTold 12 = .ok (.aload_n 0, 1) := by decide +kernel
theorem dX7_asTold_13 : decode cX7_asTold 13 = .ok (.getfield 25, 3) := by decide +kernel
theorem dX7_asTold_16 : decode cX7_asTold 16 = .ok (.iload_n 2, 1) := by decide +kernel
theorem dX7_asTold_17 : decode cX7_asTold 17 = .ok (.aload_n 0, 1) := by decide +kernel
theorem dX7_asTold_18 : decode cX7_asTold 18 = .ok (.getfield 13, 3) := by decide +kernel
theorem dX7_asTold_21 : decode cX7_asTold 21 = .ok (.iconst 3, 1) := by decide +kernel
theorem dX7_asTold_22 : decode cX7_asTold 22 = .ok (.iload_n 2, 1) := by decide +kernel
theorem dX7_asTold_23 : decode cX7_asTold 23 = .ok (.imul, 1) := by decide +kernel
theorem dX7_asTold_24 : decode cX7_asTold 24 = .ok (.iconst 1, 1) := by decide +kernel
theorem dX7_asTold_25 : decode cX7_asTold 25 = .ok (.iadd, 1) := by decide +kernel
theorem dX7_asTold_26 : decode cX7_asTold 26 = .ok (.iaload, 1) := by decide +kernel
theorem dX7_asTold_27 : decode cX7_asTold 27 = .ok (.iastore, 1) := by decide +kernel
theorem dX7_asTold_28 : decode cX7_asTold 28 = .ok (.aload_n 0, 1) := by decide +kernel
theorem dX7_asTold_29 : decode cX7_asTold 29 = .ok (.getfield 31, 3) := by decide +kernel
theorem dX7_asTold_32 : decode cX7_asTold 32 = .ok (.iload_n 2, 1) := by decide +kernel
theorem dX7_asTold_33 : decode cX7_asTold 33 = .ok (.aload_n 0, 1) := by decide +kernel
theorem dX7_asTold_34 : decode cX7_asTold 34 = .ok (.getfield 13, 3) := by decide +kernel
theorem dX7_asTold_37 : decode cX7_asTold 37 = .ok (.iconst 3, 1) := by decide +kernel
theorem dX7_asTold_38 : decode cX7_asTold 38 = .ok (.iload_n 2, 1) := by decide +kernel
theorem dX7_asTold_39 : decode cX7_asTold 39 = .ok (.imul, 1) := by decide +kernel
theorem dX7_asTold_40 : decode cX7_asTold 40 = .ok (.iconst 2, 1) := by decide +kernel
theorem dX7_asTold_41 : decode cX7_asTold 41 = .ok (.iadd, 1) := by decide +kernel
theorem dX7_asTold_42 : decode cX7_asTold 42 = .ok (.iaload, 1) := by decide +kernel
theorem dX7_asTold_43 : decode cX7_asTold 43 = .ok (.iastore, 1) := by decide +kernel
theorem dX7_asTold_44 : decode cX7_asTold 44 = .ok (.aload_n 0, 1) := by decide +kernel
theorem dX7_asTold_45 : decode cX7_asTold 45 = .ok (.getfield 28, 3) := by decide +kernel
theorem dX7_asTold_48 : decode cX7_asTold 48 = .ok (.iload_n 2, 1) := by decide +kernel
theorem dX7_asTold_49 : decode cX7_asTold 49 = .ok (.aload_n 0, 1) := by decide +kernel
theorem dX7_asTold_50 : decode cX7_asTold 50 = .ok (.getfield 133, 3) := by decide +kernel
theorem dX7_asTold_53 : decode cX7_asTold 53 = .ok (.ifCond .le 9, 3) := by decide +kernel
theorem dX7_asTold_56 : decode cX7_asTold 56 = .ok (.iload_n 1, 1) := by decide +kernel
theorem dX7_asTold_57 : decode cX7_asTold 57 = .ok (.iconst 3, 1) := by decide +kernel
theorem dX7_asTold_58 : decode cX7_asTold 58 = .ok (.irem, 1) := by decide +kernel
theorem dX7_asTold_59 : decode cX7_asTold 59 = .ok (.goto 9, 3) := by decide +kernel
theorem dX7_asTold_62 : decode cX7_asTold 62 = .ok (.aload_n 0, 1) := by decide +kernel
theorem dX7_asTold_63 : decode cX7_asTold 63 = .ok (.getfield 25, 3) := by decide +kernel
theorem dX7_asTold_66 : decode cX7_asTold 66 = .ok (.iload_n 2, 1) := by decide +kernel
theorem dX7_asTold_67 : decode cX7_asTold 67 = .ok (.iaload, 1) := by decide +kernel
theorem dX7_asTold_68 : decode cX7_asTold 68 = .ok (.iastore, 1) := by decide +kernel
theorem dX7_asTold_69 : decode cX7_asTold 69 = .ok (.iload_n 1, 1) := by decide +kernel
theorem dX7_asTold_70 : decode cX7_asTold 70 = .ok (.iconst 3, 1) := by decide +kernel
theorem dX7_asTold_71 : decode cX7_asTold 71 = .ok (.idiv, 1) := by decide +kernel
theorem dX7_asTold_72 : decode cX7_asTold 72 = .ok (.istore_n 1, 1) := by decide +kernel
theorem dX7_asTold_73 : decode cX7_asTold 73 = .ok (.iinc 2 1, 3) := by decide +kernel
theorem dX7_asTold_76 : decode cX7_asTold 76 = .ok (.goto (-69), 3) := by decide +kernel
theorem dX7_asTold_79 : decode cX7_asTold 79 = .ok (.aload_n 0, 1) := by decide +kernel
theorem dX7_asTold_80 : decode cX7_asTold 80 = .ok (.aload_n 0, 1) := by decide +kernel
theorem dX7_asTold_81 : decode cX7_asTold 81 = .ok (.getfield 133, 3) := by decide +kernel
theorem dX7_asTold_84 : decode cX7_asTold 84 = .ok (.putfield 185, 3) := by decide +kernel
theorem dX7_asTold_87 : decode cX7_asTold 87 = .ok (.aload_n 0, 1) := by decide +kernel
theorem dX7_asTold_88 : decode cX7_asTold 88 = .ok (.aload_n 0, 1) := by decide +kernel
theorem dX7_asTold_89 : decode cX7_asTold 89 = .ok (.getfield 7, 3) := by decide +kernel
theorem dX7_asTold_92 : decode cX7_asTold 92 = .ok (.iconst 0, 1) := by decide +kernel
theorem dX7_asTold_93 : decode cX7_asTold 93 = .ok (.iaload, 1) := by decide +kernel
theorem dX7_asTold_94 : decode cX7_asTold 94 = .ok (.putfield 188, 3) := by decide +kernel
theorem dX7_asTold_97 : decode cX7_asTold 97 = .ok (.aload_n 0, 1) := by decide +kernel
theorem dX7_asTold_98 : decode cX7_asTold 98 = .ok (.bipush (-4), 2) := by decide +kernel
theorem dX7_asTold_100 : decode cX7_asTold 100 = .ok (.putfield 191, 3) := by decide +kernel
theorem dX7_asTold_103 : decode cX7_asTold 103 = .ok (.return_, 1) := by decide +kernel
theorem dX7_isOn_0 : decode cX7_isOn 0 = .ok (.aload_n 0, 1) := by decide +kernel
theorem dX7_isOn_1 : decode cX7_isOn 1 = .ok (.getfield 34, 3) := by decide +kernel
theorem dX7_isOn_4 : decode cX7_isOn 4 = .ok (.iload_n 1, 1) := by decide +kernel
theorem dX7_isOn_5 : decode cX7_isOn 5 = .ok (.iaload, 1) := by decide +kernel
theorem dX7_isOn_6 : decode cX7_isOn 6 = .ok (.iconst 2, 1) := by decide +kernel
theorem dX7_isOn_7 : decode cX7_isOn 7 = .ok (.if_icmp .ne 17, 3) := by decide +kernel
theorem dX7_isOn_10 : decode cX7_isOn 10 = .ok (.aload_n 0, 1) := by decide +kernel
theorem dX7_isOn_11 : decode cX7_isOn 11 = .ok (.getfield 40, 3) := by decide +kernel
theorem dX7_isOn_14 : decode cX7_isOn 14 = .ok (.iload_n 1, 1) := by decide +kernel
theorem dX7_isOn_15 : decode cX7_isOn 15 = .ok (.iaload, 1) := by decide +kernel
theorem dX7_isOn_16 : decode cX7_isOn 16 = .ok (.iload_n 2, 1) := by decide +kernel
theorem dX7_isOn_17 : decode cX7_isOn 17 = .ok (.if_icmp .ne 7, 3) := by decide +kernel
theorem dX7_isOn_20 : decode cX7_isOn 20 = .ok (.iconst 1, 1) := by decide +kernel
theorem dX7_isOn_21 : decode cX7_isOn 21 = .ok (.goto 4, 3) := by decide +kernel
theorem dX7_isOn_24 : decode cX7_isOn 24 = .ok (.iconst 0, 1) := by decide +kernel
theorem dX7_isOn_25 : decode cX7_isOn 25 = .ok (.ireturn, 1) := by decide +kernel
theorem dX7_who_0 : decode cX7_who 0 = .ok (.bipush (-4), 2) := by decide +kernel
theorem dX7_who_2 : decode cX7_who 2 = .ok (.istore 4, 2) := by decide +kernel
theorem dX7_who_4 : decode cX7_who 4 = .ok (.iconst 0, 1) := by decide +kernel
theorem dX7_who_5 : decode cX7_who 5 = .ok (.istore 5, 2) := by decide +kernel
theorem dX7_who_7 : decode cX7_who 7 = .ok (.iload 5, 2) := by decide +kernel
theorem dX7_who_9 : decode cX7_who 9 = .ok (.aload_n 0, 1) := by decide +kernel
theorem dX7_who_10 : decode cX7_who 10 = .ok (.getfield 105, 3) := by decide +kernel
theorem dX7_who_13 : decode cX7_who 13 = .ok (.if_icmp .ge 73, 3) := by decide +kernel
theorem dX7_who_16 : decode cX7_who 16 = .ok (.aload_n 0, 1) := by decide +kernel
theorem dX7_who_17 : decode cX7_who 17 = .ok (.iload 5, 2) := by decide +kernel
theorem dX7_who_19 : decode cX7_who 19 = .ok (.iload_n 1, 1) := by decide +kernel
theorem dX7_who_20 : decode cX7_who 20 = .ok (.invokevirtual 194, 3) := by decide +kernel
theorem dX7_who_23 : decode cX7_who 23 = .ok (.ifCond .eq 18, 3) := by decide +kernel
theorem dX7_who_26 : decode cX7_who 26 = .ok (.aload_n 0, 1) := by decide +kernel
theorem dX7_who_27 : decode cX7_who 27 = .ok (.getfield 43, 3) := by decide +kernel
theorem dX7_who_30 : decode cX7_who 30 = .ok (.iload 5, 2) := by decide +kernel
theorem dX7_who_32 : decode cX7_who 32 = .ok (.iaload, 1) := by decide +kernel
theorem dX7_who_33 : decode cX7_who 33 = .ok (.iload_n 2, 1) := by decide +kernel
theorem dX7_who_34 : decode cX7_who 34 = .ok (.if_icmp .ne 7, 3) := by decide +kernel
theorem dX7_who_37 : decode cX7_who 37 = .ok (.iconst 1, 1) := by decide +kernel
theorem dX7_who_38 : decode cX7_who 38 = .ok (.goto 4, 3) := by decide +kernel
theorem dX7_who_41 : decode cX7_who 41 = .ok (.iconst 0, 1) := by decide +kernel
theorem dX7_who_42 : decode cX7_who 42 = .ok (.istore 6, 2) := by decide +kernel
theorem dX7_who_44 : decode cX7_who 44 = .ok (.iload 6, 2) := by decide +kernel
theorem dX7_who_46 : decode cX7_who 46 = .ok (.ifCond .eq 30, 3) := by decide +kernel
theorem dX7_who_49 : decode cX7_who 49 = .ok (.aload_n 0, 1) := by decide +kernel
theorem dX7_who_50 : decode cX7_who 50 = .ok (.getfield 46, 3) := by decide +kernel
theorem dX7_who_53 : decode cX7_who 53 = .ok (.iload 5, 2) := by decide +kernel
theorem dX7_who_55 : decode cX7_who 55 = .ok (.iaload, 1) := by decide +kernel
theorem dX7_who_56 : decode cX7_who 56 = .ok (.iload_n 3, 1) := by decide +kernel
theorem dX7_who_57 : decode cX7_who 57 = .ok (.if_icmp .eq 14, 3) := by decide +kernel
theorem dX7_who_60 : decode cX7_who 60 = .ok (.aload_n 0, 1) := by decide +kernel
theorem dX7_who_61 : decode cX7_who 61 = .ok (.getfield 37, 3) := by decide +kernel
theorem dX7_who_64 : decode cX7_who 64 = .ok (.iload 5, 2) := by decide +kernel
theorem dX7_who_66 : decode cX7_who 66 = .ok (.iaload, 1) := by decide +kernel
theorem dX7_who_67 : decode cX7_who 67 = .ok (.iconst 2, 1) := by decide +kernel
theorem dX7_who_68 : decode cX7_who 68 = .ok (.if_icmp .ne 8, 3) := by decide +kernel
theorem dX7_who_71 : decode cX7_who 71 = .ok (.iload 5, 2) := by decide +kernel
theorem dX7_who_73 : decode cX7_who 73 = .ok (.goto 5, 3) := by decide +kernel
theorem dX7_who_76 : decode cX7_who 76 = .ok (.iload 4, 2) := by decide +kernel
theorem dX7_who_78 : decode cX7_who 78 = .ok (.istore 4, 2) := by decide +kernel
theorem dX7_who_80 : decode cX7_who 80 = .ok (.iinc 5 1, 3) := by decide +kernel
theorem dX7_who_83 : decode cX7_who 83 = .ok (.goto (-76), 3) := by decide +kernel
theorem dX7_who_86 : decode cX7_who 86 = .ok (.iload 4, 2) := by decide +kernel
theorem dX7_who_88 : decode cX7_who 88 = .ok (.ireturn, 1) := by decide +kernel
theorem dX7_weight_0 : decode cX7_weight 0 = .ok (.iconst 0, 1) := by decide +kernel
theorem dX7_weight_1 : decode cX7_weight 1 = .ok (.istore_n 2, 1) := by decide +kernel
theorem dX7_weight_2 : decode cX7_weight 2 = .ok (.iconst 0, 1) := by decide +kernel
theorem dX7_weight_3 : decode cX7_weight 3 = .ok (.istore_n 3, 1) := by decide +kernel
theorem dX7_weight_4 : decode cX7_weight 4 = .ok (.iload_n 3, 1) := by decide +kernel
theorem dX7_weight_5 : decode cX7_weight 5 = .ok (.aload_n 0, 1) := by decide +kernel
theorem dX7_weight_6 : decode cX7_weight 6 = .ok (.getfield 105, 3) := by decide +kernel
theorem dX7_weight_9 : decode cX7_weight 9 = .ok (.if_icmp .ge 34, 3) := by decide +kernel
theorem dX7_weight_12 : decode cX7_weight 12 = .ok (.iload_n 2, 1) := by decide +kernel
theorem dX7_weight_13 : decode cX7_weight 13 = .ok (.aload_n 0, 1) := by decide +kernel
theorem dX7_weight_14 : decode cX7_weight 14 = .ok (.iload_n 3, 1) := by decide +kernel
theorem dX7_weight_15 : decode cX7_weight 15 = .ok (.iload_n 1, 1) := by decide +kernel
theorem dX7_weight_16 : decode cX7_weight 16 = .ok (.invokevirtual 194, 3) := by decide +kernel
theorem dX7_weight_19 : decode cX7_weight 19 = .ok (.ifCond .eq 15, 3) := by decide +kernel
theorem dX7_weight_22 : decode cX7_weight 22 = .ok (.aload_n 0, 1) := by decide +kernel
theorem dX7_weight_23 : decode cX7_weight 23 = .ok (.getfield 37, 3) := by decide +kernel
theorem dX7_weight_26 : decode cX7_weight 26 = .ok (.iload_n 3, 1) := by decide +kernel
theorem dX7_weight_27 : decode cX7_weight 27 = .ok (.iaload, 1) := by decide +kernel
theorem dX7_weight_28 : decode cX7_weight 28 = .ok (.invokestatic 148, 3) := by decide +kernel
theorem dX7_weight_31 : decode cX7_weight 31 = .ok (.goto 4, 3) := by decide +kernel
theorem dX7_weight_34 : decode cX7_weight 34 = .ok (.iconst 0, 1) := by decide +kernel
theorem dX7_weight_35 : decode cX7_weight 35 = .ok (.iadd, 1) := by decide +kernel
theorem dX7_weight_36 : decode cX7_weight 36 = .ok (.istore_n 2, 1) := by decide +kernel
theorem dX7_weight_37 : decode cX7_weight 37 = .ok (.iinc 3 1, 3) := by decide +kernel
theorem dX7_weight_40 : decode cX7_weight 40 = .ok (.goto (-36), 3) := by decide +kernel
theorem dX7_weight_43 : decode cX7_weight 43 = .ok (.iload_n 2, 1) := by decide +kernel
theorem dX7_weight_44 : decode cX7_weight 44 = .ok (.ireturn, 1) := by decide +kernel
theorem dX7_goes_0 : decode cX7_goes 0 = .ok (.aload_n 0, 1) := by decide +kernel
theorem dX7_goes_1 : decode cX7_goes 1 = .ok (.getfield 67, 3) := by decide +kernel
theorem dX7_goes_4 : decode cX7_goes 4 = .ok (.iload_n 1, 1) := by decide +kernel
theorem dX7_goes_5 : decode cX7_goes 5 = .ok (.iaload, 1) := by decide +kernel
theorem dX7_goes_6 : decode cX7_goes 6 = .ok (.ifCond .le 16, 3) := by decide +kernel
theorem dX7_goes_9 : decode cX7_goes 9 = .ok (.aload_n 0, 1) := by decide +kernel
theorem dX7_goes_10 : decode cX7_goes 10 = .ok (.getfield 70, 3) := by decide +kernel
theorem dX7_goes_13 : decode cX7_goes 13 = .ok (.iload_n 1, 1) := by decide +kernel
theorem dX7_goes_14 : decode cX7_goes 14 = .ok (.iaload, 1) := by decide +kernel
theorem dX7_goes_15 : decode cX7_goes 15 = .ok (.ifCond .ne 7, 3) := by decide +kernel
theorem dX7_goes_18 : decode cX7_goes 18 = .ok (.iconst 1, 1) := by decide +kernel
theorem dX7_goes_19 : decode cX7_goes 19 = .ok (.goto 4, 3) := by decide +kernel
theorem dX7_goes_22 : decode cX7_goes 22 = .ok (.iconst 0, 1) := by decide +kernel
theorem dX7_goes_23 : decode cX7_goes 23 = .ok (.ireturn, 1) := by decide +kernel
theorem dX7_changes_0 : decode cX7_changes 0 = .ok (.iconst 0, 1) := by decide +kernel
theorem dX7_changes_1 : decode cX7_changes 1 = .ok (.istore_n 2, 1) := by decide +kernel
theorem dX7_changes_2 : decode cX7_changes 2 = .ok (.iload_n 2, 1) := by decide +kernel
theorem dX7_changes_3 : decode cX7_changes 3 = .ok (.aload_n 0, 1) := by decide +kernel
theorem dX7_changes_4 : decode cX7_changes 4 = .ok (.getfield 97, 3) := by decide +kernel
theorem dX7_changes_7 : decode cX7_changes 7 = .ok (.if_icmp .ge 129, 3) := by decide +kernel
theorem dX7_changes_10 : decode cX7_changes 10 = .ok (.aload_n 0, 1) := by decide +kernel
theorem dX7_changes_11 : decode cX7_changes 11 = .ok (.getfield 67, 3) := by decide +kernel
theorem dX7_changes_14 : decode cX7_changes 14 = .ok (.iload_n 2, 1) := by decide +kernel
theorem dX7_changes_15 : decode cX7_changes 15 = .ok (.iaload, 1) := by decide +kernel
theorem dX7_changes_16 : decode cX7_changes 16 = .ok (.istore_n 3, 1) := by decide +kernel
theorem dX7_changes_17 : decode cX7_changes 17 = .ok (.aload_n 0, 1) := by decide +kernel
theorem dX7_changes_18 : decode cX7_changes 18 = .ok (.getfield 67, 3) := by decide +kernel
theorem dX7_changes_21 : decode cX7_changes 21 = .ok (.iload_n 2, 1) := by decide +kernel
theorem dX7_changes_22 : decode cX7_changes 22 = .ok (.aload_n 0, 1) := by decide +kernel
theorem dX7_changes_23 : decode cX7_changes 23 = .ok (.getfield 28, 3) := by decide +kernel
theorem dX7_changes_26 : decode cX7_changes 26 = .ok (.iload_n 2, 1) := by decide +kernel
theorem dX7_changes_27 : decode cX7_changes 27 = .ok (.iaload, 1) := by decide +kernel
theorem dX7_changes_28 : decode cX7_changes 28 = .ok (.iastore, 1) := by decide +kernel
theorem dX7_changes_29 : decode cX7_changes 29 = .ok (.iconst 0, 1) := by decide +kernel
theorem dX7_changes_30 : decode cX7_changes 30 = .ok (.istore 4, 2) := by decide +kernel
theorem dX7_changes_32 : decode cX7_changes 32 = .ok (.iload 4, 2) := by decide +kernel
theorem dX7_changes_34 : decode cX7_changes 34 = .ok (.aload_n 0, 1) := by decide +kernel
theorem dX7_changes_35 : decode cX7_changes 35 = .ok (.getfield 105, 3) := by decide +kernel
theorem dX7_changes_38 : decode cX7_changes 38 = .ok (.if_icmp .ge 92, 3) := by decide +kernel
theorem dX7_changes_41 : decode cX7_changes 41 = .ok (.iload_n 3, 1) := by decide +kernel
theorem dX7_changes_42 : decode cX7_changes 42 = .ok (.aload_n 0, 1) := by decide +kernel
theorem dX7_changes_43 : decode cX7_changes 43 = .ok (.getfield 67, 3) := by decide +kernel
theorem dX7_changes_46 : decode cX7_changes 46 = .ok (.iload_n 2, 1) := by decide +kernel
theorem dX7_changes_47 : decode cX7_changes 47 = .ok (.iaload, 1) := by decide +kernel
theorem dX7_changes_48 : decode cX7_changes 48 = .ok (.if_icmp .eq 82, 3) := by decide +kernel
theorem dX7_changes_51 : decode cX7_changes 51 = .ok (.aload_n 0, 1) := by decide +kernel
theorem dX7_changes_52 : decode cX7_changes 52 = .ok (.iload 4, 2) := by decide +kernel
theorem dX7_changes_54 : decode cX7_changes 54 = .ok (.iload_n 2, 1) := by decide +kernel
theorem dX7_changes_55 : decode cX7_changes 55 = .ok (.invokevirtual 194, 3) := by decide +kernel
theorem dX7_changes_58 : decode cX7_changes 58 = .ok (.ifCond .eq 31, 3) := by decide +kernel
theorem dX7_changes_61 : decode cX7_changes 61 = .ok (.aload_n 0, 1) := by decide +kernel
theorem dX7_changes_62 : decode cX7_changes 62 = .ok (.getfield 67, 3) := by decide +kernel
theorem dX7_changes_65 : decode cX7_changes 65 = .ok (.iload_n 2, 1) := by decide +kernel
theorem dX7_changes_66 : decode cX7_changes 66 = .ok (.iaload, 1) := by decide +kernel
theorem dX7_changes_67 : decode cX7_changes 67 = .ok (.ifCond .ne 22, 3) := by decide +kernel
theorem dX7_changes_70 : decode cX7_changes 70 = .ok (.aload_n 0, 1) := by decide +kernel
theorem dX7_changes_71 : decode cX7_changes 71 = .ok (.getfield 34, 3) := by decide +kernel
theorem dX7_changes_74 : decode cX7_changes 74 = .ok (.iload 4, 2) := by decide +kernel
theorem dX7_changes_76 : decode cX7_changes 76 = .ok (.iconst 4, 1) := by decide +kernel
theorem dX7_changes_77 : decode cX7_changes 77 = .ok (.iastore, 1) := by decide +kernel
theorem dX7_changes_78 : decode cX7_changes 78 = .ok (.aload_n 0, 1) := by decide +kernel
theorem dX7_changes_79 : decode cX7_changes 79 = .ok (.getfield 61, 3) := by decide +kernel
theorem dX7_changes_82 : decode cX7_changes 82 = .ok (.iload 4, 2) := by decide +kernel
theorem dX7_changes_84 : decode cX7_changes 84 = .ok (.iload_n 1, 1) := by decide +kernel
theorem dX7_changes_85 : decode cX7_changes 85 = .ok (.iastore, 1) := by decide +kernel
theorem dX7_changes_86 : decode cX7_changes 86 = .ok (.goto 38, 3) := by decide +kernel
theorem dX7_changes_89 : decode cX7_changes 89 = .ok (.aload_n 0, 1) := by decide +kernel
theorem dX7_changes_90 : decode cX7_changes 90 = .ok (.iload 4, 2) := by decide +kernel
theorem dX7_changes_92 : decode cX7_changes 92 = .ok (.iload_n 2, 1) := by decide +kernel
theorem dX7_changes_93 : decode cX7_changes 93 = .ok (.invokevirtual 194, 3) := by decide +kernel
theorem dX7_changes_96 : decode cX7_changes 96 = .ok (.ifCond .eq 28, 3) := by decide +kernel
theorem dX7_changes_99 : decode cX7_changes 99 = .ok (.aload_n 0, 1) := by decide +kernel
theorem dX7_changes_100 : decode cX7_changes 100 = .ok (.getfield 43, 3) := by decide +kernel
theorem dX7_changes_103 : decode cX7_changes 103 = .ok (.iload 4, 2) := by decide +kernel
theorem dX7_changes_105 : decode cX7_changes 105 = .ok (.aload_n 0, 1) := by decide +kernel
theorem dX7_changes_106 : decode cX7_changes 106 = .ok (.getfield 13, 3) := by decide +kernel
theorem dX7_changes_109 : decode cX7_changes 109 = .ok (.iconst 3, 1) := by decide +kernel
theorem dX7_changes_110 : decode cX7_changes 110 = .ok (.iload_n 2, 1) := by decide +kernel
theorem dX7_changes_111 : decode cX7_changes 111 = .ok (.imul, 1) := by decide +kernel
theorem dX7_changes_112 : decode cX7_changes 112 = .ok (.iaload, 1) := by decide +kernel
theorem dX7_changes_113 : decode cX7_changes 113 = .ok (.iconst 1, 1) := by decide +kernel
theorem dX7_changes_114 : decode cX7_changes 114 = .ok (.isub, 1) := by decide +kernel
theorem dX7_changes_115 : decode cX7_changes 115 = .ok (.aload_n 0, 1) := by decide +kernel
theorem dX7_changes_116 : decode cX7_changes 116 = .ok (.getfield 43, 3) := by decide +kernel
theorem dX7_changes_119 : decode cX7_changes 119 = .ok (.iload 4, 2) := by decide +kernel
theorem dX7_changes_121 : decode cX7_changes 121 = .ok (.iaload, 1) := by decide +kernel
theorem dX7_changes_122 : decode cX7_changes 122 = .ok (.isub, 1) := by decide +kernel
theorem dX7_changes_123 : decode cX7_changes 123 = .ok (.iastore, 1) := by decide +kernel
theorem dX7_changes_124 : decode cX7_changes 124 = .ok (.iinc 4 1, 3) := by decide +kernel
theorem dX7_changes_127 : decode cX7_changes 127 = .ok (.goto (-95), 3) := by decide +kernel
theorem dX7_changes_130 : decode cX7_changes 130 = .ok (.iinc 2 1, 3) := by decide +kernel
theorem dX7_changes_133 : decode cX7_changes 133 = .ok (.goto (-131), 3) := by decide +kernel
theorem dX7_changes_136 : decode cX7_changes 136 = .ok (.return_, 1) := by decide +kernel
theorem dX7_goesOne_0 : decode cX7_goesOne 0 = .ok (.aload_n 0, 1) := by decide +kernel
theorem dX7_goesOne_1 : decode cX7_goesOne 1 = .ok (.getfield 13, 3) := by decide +kernel
theorem dX7_goesOne_4 : decode cX7_goesOne 4 = .ok (.iconst 3, 1) := by decide +kernel
theorem dX7_goesOne_5 : decode cX7_goesOne 5 = .ok (.iload_n 1, 1) := by decide +kernel
theorem dX7_goesOne_6 : decode cX7_goesOne 6 = .ok (.imul, 1) := by decide +kernel
theorem dX7_goesOne_7 : decode cX7_goesOne 7 = .ok (.iaload, 1) := by decide +kernel
theorem dX7_goesOne_8 : decode cX7_goesOne 8 = .ok (.iconst 1, 1) := by decide +kernel
theorem dX7_goesOne_9 : decode cX7_goesOne 9 = .ok (.isub, 1) := by decide +kernel
theorem dX7_goesOne_10 : decode cX7_goesOne 10 = .ok (.istore_n 3, 1) := by decide +kernel
theorem dX7_goesOne_11 : decode cX7_goesOne 11 = .ok (.aload_n 0, 1) := by decide +kernel
theorem dX7_goesOne_12 : decode cX7_goesOne 12 = .ok (.getfield 67, 3) := by decide +kernel
theorem dX7_goesOne_15 : decode cX7_goesOne 15 = .ok (.iload_n 1, 1) := by decide +kernel
theorem dX7_goesOne_16 : decode cX7_goesOne 16 = .ok (.iaload, 1) := by decide +kernel
theorem dX7_goesOne_17 : decode cX7_goesOne 17 = .ok (.iconst 1, 1) := by decide +kernel
theorem dX7_goesOne_18 : decode cX7_goesOne 18 = .ok (.if_icmp .ne 7, 3) := by decide +kernel
theorem dX7_goesOne_21 : decode cX7_goesOne 21 = .ok (.iconst 1, 1) := by decide +kernel
theorem dX7_goesOne_22 : decode cX7_goesOne 22 = .ok (.goto 4, 3) := by decide +kernel
theorem dX7_goesOne_25 : decode cX7_goesOne 25 = .ok (.iconst 0, 1) := by decide +kernel
theorem dX7_goesOne_26 : decode cX7_goesOne 26 = .ok (.istore 4, 2) := by decide +kernel
theorem dX7_goesOne_28 : decode cX7_goesOne 28 = .ok (.iconst 0, 1) := by decide +kernel
theorem dX7_goesOne_29 : decode cX7_goesOne 29 = .ok (.istore 5, 2) := by decide +kernel
theorem dX7_goesOne_31 : decode cX7_goesOne 31 = .ok (.iconst 0, 1) := by decide +kernel
theorem dX7_goesOne_32 : decode cX7_goesOne 32 = .ok (.istore 6, 2) := by decide +kernel
theorem dX7_goesOne_34 : decode cX7_goesOne 34 = .ok (.iconst 0, 1) := by decide +kernel
theorem dX7_goesOne_35 : decode cX7_goesOne 35 = .ok (.istore 7, 2) := by decide +kernel
theorem dX7_goesOne_37 : decode cX7_goesOne 37 = .ok (.iload 7, 2) := by decide +kernel
theorem dX7_goesOne_39 : decode cX7_goesOne 39 = .ok (.aload_n 0, 1) := by decide +kernel
theorem dX7_goesOne_40 : decode cX7_goesOne 40 = .ok (.getfield 105, 3) := by decide +kernel
theorem dX7_goesOne_43 : decode cX7_goesOne 43 = .ok (.if_icmp .ge 73, 3) := by decide +kernel
theorem dX7_goesOne_46 : decode cX7_goesOne 46 = .ok (.iload 5, 2) := by decide +kernel
theorem dX7_goesOne_48 : decode cX7_goesOne 48 = .ok (.aload_n 0, 1) := by decide +kernel
theorem dX7_goesOne_49 : decode cX7_goesOne 49 = .ok (.iload 7, 2) := by decide +kernel
theorem dX7_goesOne_51 : decode cX7_goesOne 51 = .ok (.iload_n 1, 1) := by decide +kernel
theorem dX7_goesOne_52 : decode cX7_goesOne 52 = .ok (.invokevirtual 194, 3) := by decide +kernel
theorem dX7_goesOne_55 : decode cX7_goesOne 55 = .ok (.ifCond .eq 18, 3) := by decide +kernel
theorem dX7_goesOne_58 : decode cX7_goesOne 58 = .ok (.aload_n 0, 1) := by decide +kernel
theorem dX7_goesOne_59 : decode cX7_goesOne 59 = .ok (.getfield 43, 3) := by decide +kernel
theorem dX7_goesOne_62 : decode cX7_goesOne 62 = .ok (.iload 7, 2) := by decide +kernel
theorem dX7_goesOne_64 : decode cX7_goesOne 64 = .ok (.iaload, 1) := by decide +kernel
theorem dX7_goesOne_65 : decode cX7_goesOne 65 = .ok (.iload_n 3, 1) := by decide +kernel
theorem dX7_goesOne_66 : decode cX7_goesOne 66 = .ok (.if_icmp .ne 7, 3) := by decide +kernel
theorem dX7_goesOne_69 : decode cX7_goesOne 69 = .ok (.iconst 1, 1) := by decide +kernel
theorem dX7_goesOne_70 : decode cX7_goesOne 70 = .ok (.goto 4, 3) := by decide +kernel
theorem dX7_goesOne_73 : decode cX7_goesOne 73 = .ok (.iconst 0, 1) := by decide +kernel
theorem dX7_goesOne_74 : decode cX7_goesOne 74 = .ok (.iadd, 1) := by decide +kernel
theorem dX7_goesOne_75 : decode cX7_goesOne 75 = .ok (.istore 5, 2) := by decide +kernel
theorem dX7_goesOne_77 : decode cX7_goesOne 77 = .ok (.iload 6, 2) := by decide +kernel
theorem dX7_goesOne_79 : decode cX7_goesOne 79 = .ok (.aload_n 0, 1) := by decide +kernel
theorem dX7_goesOne_80 : decode cX7_goesOne 80 = .ok (.getfield 34, 3) := by decide +kernel
theorem dX7_goesOne_83 : decode cX7_goesOne 83 = .ok (.iload 7, 2) := by decide +kernel
theorem dX7_goesOne_85 : decode cX7_goesOne 85 = .ok (.iaload, 1) := by decide +kernel
theorem dX7_goesOne_86 : decode cX7_goesOne 86 = .ok (.iconst 3, 1) := by decide +kernel
theorem dX7_goesOne_87 : decode cX7_goesOne 87 = .ok (.if_icmp .ne 19, 3) := by decide +kernel
theorem dX7_goesOne_90 : decode cX7_goesOne 90 = .ok (.aload_n 0, 1) := by decide +kernel
theorem dX7_goesOne_91 : decode cX7_goesOne 91 = .ok (.getfield 49, 3) := by decide +kernel
theorem dX7_goesOne_94 : decode cX7_goesOne 94 = .ok (.iload 7, 2) := by decide +kernel
theorem dX7_goesOne_96 : decode cX7_goesOne 96 = .ok (.iaload, 1) := by decide +kernel
theorem dX7_goesOne_97 : decode cX7_goesOne 97 = .ok (.iload 4, 2) := by decide +kernel
theorem dX7_goesOne_99 : decode cX7_goesOne 99 = .ok (.if_icmp .ne 7, 3) := by decide +kernel
theorem dX7_goesOne_102 : decode cX7_goesOne 102 = .ok (.iconst 1, 1) := by decide +kernel
theorem dX7_goesOne_103 : decode cX7_goesOne 103 = .ok (.goto 4, 3) := by decide +kernel
theorem dX7_goesOne_106 : decode cX7_goesOne 106 = .ok (.iconst 0, 1) := by decide +kernel
theorem dX7_goesOne_107 : decode cX7_goesOne 107 = .ok (.iadd, 1) := by decide +kernel
theorem dX7_goesOne_108 : decode cX7_goesOne 108 = .ok (.istore 6, 2) := by decide +kernel
theorem dX7_goesOne_110 : decode cX7_goesOne 110 = .ok (.iinc 7 1, 3) := by decide +kernel
theorem dX7_goesOne_113 : decode cX7_goesOne 113 = .ok (.goto (-76), 3) := by decide +kernel
theorem dX7_goesOne_116 : decode cX7_goesOne 116 = .ok (.iload 5, 2) := by decide +kernel
theorem dX7_goesOne_118 : decode cX7_goesOne 118 = .ok (.aload_n 0, 1) := by decide +kernel
theorem dX7_goesOne_119 : decode cX7_goesOne 119 = .ok (.getfield 7, 3) := by decide +kernel
theorem dX7_goesOne_122 : decode cX7_goesOne 122 = .ok (.iconst 1, 1) := by decide +kernel
theorem dX7_goesOne_123 : decode cX7_goesOne 123 = .ok (.iaload, 1) := by decide +kernel
theorem dX7_goesOne_124 : decode cX7_goesOne 124 = .ok (.iload 6, 2) := by decide +kernel
theorem dX7_goesOne_126 : decode cX7_goesOne 126 = .ok (.isub, 1) := by decide +kernel
theorem dX7_goesOne_127 : decode cX7_goesOne 127 = .ok (.if_icmp .le 15, 3) := by decide +kernel
theorem dX7_goesOne_130 : decode cX7_goesOne 130 = .ok (.aload_n 0, 1) := by decide +kernel
theorem dX7_goesOne_131 : decode cX7_goesOne 131 = .ok (.dup, 1) := by decide +kernel
theorem dX7_goesOne_132 : decode cX7_goesOne 132 = .ok (.getfield 197, 3) := by decide +kernel
theorem dX7_goesOne_135 : decode cX7_goesOne 135 = .ok (.iconst 1, 1) := by decide +kernel
theorem dX7_goesOne_136 : decode cX7_goesOne 136 = .ok (.iadd, 1) := by decide +kernel
theorem dX7_goesOne_137 : decode cX7_goesOne 137 = .ok (.putfield 197, 3) := by decide +kernel
theorem dX7_goesOne_140 : decode cX7_goesOne 140 = .ok (.iconst 0, 1) := by decide +kernel
theorem dX7_goesOne_141 : decode cX7_goesOne 141 = .ok (.ireturn, 1) := by decide +kernel
theorem dX7_goesOne_142 : decode cX7_goesOne 142 = .ok (.iconst 0, 1) := by decide +kernel
theorem dX7_goesOne_143 : decode cX7_goesOne 143 = .ok (.istore 7, 2) := by decide +kernel
theorem dX7_goesOne_145 : decode cX7_goesOne 145 = .ok (.iload 7, 2) := by decide +kernel
theorem dX7_goesOne_147 : decode cX7_goesOne 147 = .ok (.aload_n 0, 1) := by decide +kernel
theorem dX7_goesOne_148 : decode cX7_goesOne 148 = .ok (.getfield 105, 3) := by decide +kernel
theorem dX7_goesOne_151 : decode cX7_goesOne 151 = .ok (.if_icmp .ge 79, 3) := by decide +kernel
theorem dX7_goesOne_154 : decode cX7_goesOne 154 = .ok (.aload_n 0, 1) := by decide +kernel
theorem dX7_goesOne_155 : decode cX7_goesOne 155 = .ok (.iload 7, 2) := by decide +kernel
theorem dX7_goesOne_157 : decode cX7_goesOne 157 = .ok (.iload_n 1, 1) := by decide +kernel
theorem dX7_goesOne_158 : decode cX7_goesOne 158 = .ok (.invokevirtual 194, 3) := by decide +kernel
theorem dX7_goesOne_161 : decode cX7_goesOne 161 = .ok (.ifCond .eq 42, 3) := by decide +kernel
theorem dX7_goesOne_164 : decode cX7_goesOne 164 = .ok (.aload_n 0, 1) := by decide +kernel
theorem dX7_goesOne_165 : decode cX7_goesOne 165 = .ok (.getfield 43, 3) := by decide +kernel
theorem dX7_goesOne_168 : decode cX7_goesOne 168 = .ok (.iload 7, 2) := by decide +kernel
theorem dX7_goesOne_170 : decode cX7_goesOne 170 = .ok (.iaload, 1) := by decide +kernel
theorem dX7_goesOne_171 : decode cX7_goesOne 171 = .ok (.iload_n 3, 1) := by decide +kernel
theorem dX7_goesOne_172 : decode cX7_goesOne 172 = .ok (.if_icmp .ne 31, 3) := by decide +kernel
theorem dX7_goesOne_175 : decode cX7_goesOne 175 = .ok (.aload_n 0, 1) := by decide +kernel
theorem dX7_goesOne_176 : decode cX7_goesOne 176 = .ok (.getfield 34, 3) := by decide +kernel
theorem dX7_goesOne_179 : decode cX7_goesOne 179 = .ok (.iload 7, 2) := by decide +kernel
theorem dX7_goesOne_181 : decode cX7_goesOne 181 = .ok (.iconst 3, 1) := by decide +kernel
theorem dX7_goesOne_182 : decode cX7_goesOne 182 = .ok (.iastore, 1) := by decide +kernel
theorem dX7_goesOne_183 : decode cX7_goesOne 183 = .ok (.aload_n 0, 1) := by decide +kernel
theorem dX7_goesOne_184 : decode cX7_goesOne 184 = .ok (.getfield 49, 3) := by decide +kernel
theorem dX7_goesOne_187 : decode cX7_goesOne 187 = .ok (.iload 7, 2) := by decide +kernel
theorem dX7_goesOne_189 : decode cX7_goesOne 189 = .ok (.iload 4, 2) := by decide +kernel
theorem dX7_goesOne_191 : decode cX7_goesOne 191 = .ok (.iastore, 1) := by decide +kernel
theorem dX7_goesOne_192 : decode cX7_goesOne 192 = .ok (.aload_n 0, 1) := by decide +kernel
theorem dX7_goesOne_193 : decode cX7_goesOne 193 = .ok (.getfield 52, 3) := by decide +kernel
theorem dX7_goesOne_196 : decode cX7_goesOne 196 = .ok (.iload 7, 2) := by decide +kernel
theorem dX7_goesOne_198 : decode cX7_goesOne 198 = .ok (.iload_n 2, 1) := by decide +kernel
theorem dX7_goesOne_199 : decode cX7_goesOne 199 = .ok (.iastore, 1) := by decide +kernel
theorem dX7_goesOne_200 : decode cX7_goesOne 200 = .ok (.goto 24, 3) := by decide +kernel
theorem dX7_goesOne_203 : decode cX7_goesOne 203 = .ok (.aload_n 0, 1) := by decide +kernel
theorem dX7_goesOne_204 : decode cX7_goesOne 204 = .ok (.iload 7, 2) := by decide +kernel
theorem dX7_goesOne_206 : decode cX7_goesOne 206 = .ok (.iload_n 1, 1) := by decide +kernel
theorem dX7_goesOne_207 : decode cX7_goesOne 207 = .ok (.invokevirtual 194, 3) := by decide +kernel
theorem dX7_goesOne_210 : decode cX7_goesOne 210 = .ok (.ifCond .eq 14, 3) := by decide +kernel
theorem dX7_goesOne_213 : decode cX7_goesOne 213 = .ok (.aload_n 0, 1) := by decide +kernel
theorem dX7_goesOne_214 : decode cX7_goesOne 214 = .ok (.getfield 43, 3) := by decide +kernel
theorem dX7_goesOne_217 : decode cX7_goesOne 217 = .ok (.iload 7, 2) := by decide +kernel
theorem dX7_goesOne_219 : decode cX7_goesOne 219 = .ok (.dup2, 1) := by decide +kernel
theorem dX7_goesOne_220 : decode cX7_goesOne 220 = .ok (.iaload, 1) := by decide +kernel
theorem dX7_goesOne_221 : decode cX7_goesOne 221 = .ok (.iconst 1, 1) := by decide +kernel
theorem dX7_goesOne_222 : decode cX7_goesOne 222 = .ok (.iadd, 1) := by decide +kernel
theorem dX7_goesOne_223 : decode cX7_goesOne 223 = .ok (.iastore, 1) := by decide +kernel
theorem dX7_goesOne_224 : decode cX7_goesOne 224 = .ok (.iinc 7 1, 3) := by decide +kernel
theorem dX7_goesOne_227 : decode cX7_goesOne 227 = .ok (.goto (-82), 3) := by decide +kernel
theorem dX7_goesOne_230 : decode cX7_goesOne 230 = .ok (.iconst 1, 1) := by decide +kernel
theorem dX7_goesOne_231 : decode cX7_goesOne 231 = .ok (.ireturn, 1) := by decide +kernel
theorem dX7_walks_0 : decode cX7_walks 0 = .ok (.aload_n 0, 1) := by decide +kernel
theorem dX7_walks_1 : decode cX7_walks 1 = .ok (.getfield 13, 3) := by decide +kernel
theorem dX7_walks_4 : decode cX7_walks 4 = .ok (.iconst 3, 1) := by decide +kernel
theorem dX7_walks_5 : decode cX7_walks 5 = .ok (.iload_n 1, 1) := by decide +kernel
theorem dX7_walks_6 : decode cX7_walks 6 = .ok (.imul, 1) := by decide +kernel
theorem dX7_walks_7 : decode cX7_walks 7 = .ok (.iaload, 1) := by decide +kernel
theorem dX7_walks_8 : decode cX7_walks 8 = .ok (.iconst 2, 1) := by decide +kernel
theorem dX7_walks_9 : decode cX7_walks 9 = .ok (.isub, 1) := by decide +kernel
theorem dX7_walks_10 : decode cX7_walks 10 = .ok (.istore_n 2, 1) := by decide +kernel
theorem dX7_walks_11 : decode cX7_walks 11 = .ok (.iload_n 2, 1) := by decide +kernel
theorem dX7_walks_12 : decode cX7_walks 12 = .ok (.ifCond .lt 63, 3) := by decide +kernel
theorem dX7_walks_15 : decode cX7_walks 15 = .ok (.aload_n 0, 1) := by decide +kernel
theorem dX7_walks_16 : decode cX7_walks 16 = .ok (.iload_n 1, 1) := by decide +kernel
theorem dX7_walks_17 : decode cX7_walks 17 = .ok (.iload_n 2, 1) := by decide +kernel
theorem dX7_walks_18 : decode cX7_walks 18 = .ok (.iconst 1, 1) := by decide +kernel
theorem dX7_walks_19 : decode cX7_walks 19 = .ok (.invokevirtual 200, 3) := by decide +kernel
theorem dX7_walks_22 : decode cX7_walks 22 = .ok (.istore_n 3, 1) := by decide +kernel
theorem dX7_walks_23 : decode cX7_walks 23 = .ok (.iload_n 3, 1) := by decide +kernel
theorem dX7_walks_24 : decode cX7_walks 24 = .ok (.ifCond .lt 45, 3) := by decide +kernel
theorem dX7_walks_27 : decode cX7_walks 27 = .ok (.aload_n 0, 1) := by decide +kernel
theorem dX7_walks_28 : decode cX7_walks 28 = .ok (.getfield 37, 3) := by decide +kernel
theorem dX7_walks_31 : decode cX7_walks 31 = .ok (.iload_n 3, 1) := by decide +kernel
theorem dX7_walks_32 : decode cX7_walks 32 = .ok (.iaload, 1) := by decide +kernel
theorem dX7_walks_33 : decode cX7_walks 33 = .ok (.iconst 1, 1) := by decide +kernel
theorem dX7_walks_34 : decode cX7_walks 34 = .ok (.if_icmp .ne 35, 3) := by decide +kernel
theorem dX7_walks_37 : decode cX7_walks 37 = .ok (.aload_n 0, 1) := by decide +kernel
theorem dX7_walks_38 : decode cX7_walks 38 = .ok (.getfield 46, 3) := by decide +kernel
theorem dX7_walks_41 : decode cX7_walks 41 = .ok (.iload_n 3, 1) := by decide +kernel
theorem dX7_walks_42 : decode cX7_walks 42 = .ok (.iaload, 1) := by decide +kernel
theorem dX7_walks_43 : decode cX7_walks 43 = .ok (.iconst 1, 1) := by decide +kernel
theorem dX7_walks_44 : decode cX7_walks 44 = .ok (.if_icmp .ne 25, 3) := by decide +kernel
theorem dX7_walks_47 : decode cX7_walks 47 = .ok (.aload_n 0, 1) := by decide +kernel
theorem dX7_walks_48 : decode cX7_walks 48 = .ok (.iload_n 1, 1) := by decide +kernel
theorem dX7_walks_49 : decode cX7_walks 49 = .ok (.iload_n 2, 1) := by decide +kernel
theorem dX7_walks_50 : decode cX7_walks 50 = .ok (.iconst 1, 1) := by decide +kernel
theorem dX7_walks_51 : decode cX7_walks 51 = .ok (.iadd, 1) := by decide +kernel
theorem dX7_walks_52 : decode cX7_walks 52 = .ok (.iconst 1, 1) := by decide +kernel
theorem dX7_walks_53 : decode cX7_walks 53 = .ok (.invokevirtual 200, 3) := by decide +kernel
theorem dX7_walks_56 : decode cX7_walks 56 = .ok (.ifCond .ge 13, 3) := by decide +kernel
theorem dX7_walks_59 : decode cX7_walks 59 = .ok (.aload_n 0, 1) := by decide +kernel
theorem dX7_walks_60 : decode cX7_walks 60 = .ok (.getfield 43, 3) := by decide +kernel
theorem dX7_walks_63 : decode cX7_walks 63 = .ok (.iload_n 3, 1) := by decide +kernel
theorem dX7_walks_64 : decode cX7_walks 64 = .ok (.dup2, 1) := by decide +kernel
theorem dX7_walks_65 : decode cX7_walks 65 = .ok (.iaload, 1) := by decide +kernel
theorem dX7_walks_66 : decode cX7_walks 66 = .ok (.iconst 1, 1) := by decide +kernel
theorem dX7_walks_67 : decode cX7_walks 67 = .ok (.iadd, 1) := by decide +kernel
theorem dX7_walks_68 : decode cX7_walks 68 = .ok (.iastore, 1) := by decide +kernel
theorem dX7_walks_69 : decode cX7_walks 69 = .ok (.iinc 2 (-1), 3) := by decide +kernel
theorem dX7_walks_72 : decode cX7_walks 72 = .ok (.goto (-61), 3) := by decide +kernel
theorem dX7_walks_75 : decode cX7_walks 75 = .ok (.return_, 1) := by decide +kernel
theorem dX7_leaves_0 : decode cX7_leaves 0 = .ok (.iconst 0, 1) := by decide +kernel
theorem dX7_leaves_1 : decode cX7_leaves 1 = .ok (.istore_n 2, 1) := by decide +kernel
theorem dX7_leaves_2 : decode cX7_leaves 2 = .ok (.iload_n 2, 1) := by decide +kernel
theorem dX7_leaves_3 : decode cX7_leaves 3 = .ok (.iconst 2, 1) := by decide +kernel
theorem dX7_leaves_4 : decode cX7_leaves 4 = .ok (.if_icmp .ge 136, 3) := by decide +kernel
theorem dX7_leaves_7 : decode cX7_leaves 7 = .ok (.iconst 0, 1) := by decide +kernel
theorem dX7_leaves_8 : decode cX7_leaves 8 = .ok (.istore_n 3, 1) := by decide +kernel
theorem dX7_leaves_9 : decode cX7_leaves 9 = .ok (.iload_n 3, 1) := by decide +kernel
theorem dX7_leaves_10 : decode cX7_leaves 10 = .ok (.aload_n 0, 1) := by decide +kernel
theorem dX7_leaves_11 : decode cX7_leaves 11 = .ok (.getfield 7, 3) := by decide +kernel
theorem dX7_leaves_14 : decode cX7_leaves 14 = .ok (.iconst 2, 1) := by decide +kernel
theorem dX7_leaves_15 : decode cX7_leaves 15 = .ok (.iaload, 1) := by decide +kernel
theorem dX7_leaves_16 : decode cX7_leaves 16 = .ok (.if_icmp .ge 118, 3) := by decide +kernel
theorem dX7_leaves_19 : decode cX7_leaves 19 = .ok (.bipush (-4), 2) := by decide +kernel
theorem dX7_leaves_21 : decode cX7_leaves 21 = .ok (.istore 4, 2) := by decide +kernel
theorem dX7_leaves_23 : decode cX7_leaves 23 = .ok (.aload_n 0, 1) := by decide +kernel
theorem dX7_leaves_24 : decode cX7_leaves 24 = .ok (.getfield 105, 3) := by decide +kernel
theorem dX7_leaves_27 : decode cX7_leaves 27 = .ok (.iconst 1, 1) := by decide +kernel
theorem dX7_leaves_28 : decode cX7_leaves 28 = .ok (.isub, 1) := by decide +kernel
theorem dX7_leaves_29 : decode cX7_leaves 29 = .ok (.istore 5, 2) := by decide +kernel
theorem dX7_leaves_31 : decode cX7_leaves 31 = .ok (.iload 5, 2) := by decide +kernel
theorem dX7_leaves_33 : decode cX7_leaves 33 = .ok (.ifCond .lt 74, 3) := by decide +kernel
theorem dX7_leaves_36 : decode cX7_leaves 36 = .ok (.aload_n 0, 1) := by decide +kernel
theorem dX7_leaves_37 : decode cX7_leaves 37 = .ok (.getfield 34, 3) := by decide +kernel
theorem dX7_leaves_40 : decode cX7_leaves 40 = .ok (.iload 5, 2) := by decide +kernel
theorem dX7_leaves_42 : decode cX7_leaves 42 = .ok (.iaload, 1) := by decide +kernel
theorem dX7_leaves_43 : decode cX7_leaves 43 = .ok (.iconst 3, 1) := by decide +kernel
theorem dX7_leaves_44 : decode cX7_leaves 44 = .ok (.if_icmp .ne 18, 3) := by decide +kernel
theorem dX7_leaves_47 : decode cX7_leaves 47 = .ok (.aload_n 0, 1) := by decide +kernel
theorem dX7_leaves_48 : decode cX7_leaves 48 = .ok (.getfield 49, 3) := by decide +kernel
theorem dX7_leaves_51 : decode cX7_leaves 51 = .ok (.iload 5, 2) := by decide +kernel
theorem dX7_leaves_53 : decode cX7_leaves 53 = .ok (.iaload, 1) := by decide +kernel
theorem dX7_leaves_54 : decode cX7_leaves 54 = .ok (.iload_n 2, 1) := by decide +kernel
theorem dX7_leaves_55 : decode cX7_leaves 55 = .ok (.if_icmp .ne 7, 3) := by decide +kernel
theorem dX7_leaves_58 : decode cX7_leaves 58 = .ok (.iconst 1, 1) := by decide +kernel
theorem dX7_leaves_59 : decode cX7_leaves 59 = .ok (.goto 4, 3) := by decide +kernel
theorem dX7_leaves_62 : decode cX7_leaves 62 = .ok (.iconst 0, 1) := by decide +kernel
theorem dX7_leaves_63 : decode cX7_leaves 63 = .ok (.istore 6, 2) := by decide +kernel
theorem dX7_leaves_65 : decode cX7_leaves 65 = .ok (.iload 6, 2) := by decide +kernel
theorem dX7_leaves_67 : decode cX7_leaves 67 = .ok (.ifCond .eq 30, 3) := by decide +kernel
theorem dX7_leaves_70 : decode cX7_leaves 70 = .ok (.iload 4, 2) := by decide +kernel
theorem dX7_leaves_72 : decode cX7_leaves 72 = .ok (.ifCond .lt 20, 3) := by decide +kernel
theorem dX7_leaves_75 : decode cX7_leaves 75 = .ok (.aload_n 0, 1) := by decide +kernel
theorem dX7_leaves_76 : decode cX7_leaves 76 = .ok (.getfield 52, 3) := by decide +kernel
theorem dX7_leaves_79 : decode cX7_leaves 79 = .ok (.iload 5, 2) := by decide +kernel
theorem dX7_leaves_81 : decode cX7_leaves 81 = .ok (.iaload, 1) := by decide +kernel
theorem dX7_leaves_82 : decode cX7_leaves 82 = .ok (.aload_n 0, 1) := by decide +kernel
theorem dX7_leaves_83 : decode cX7_leaves 83 = .ok (.getfield 52, 3) := by decide +kernel
theorem dX7_leaves_86 : decode cX7_leaves 86 = .ok (.iload 4, 2) := by decide +kernel
theorem dX7_leaves_88 : decode cX7_leaves 88 = .ok (.iaload, 1) := by decide +kernel
theorem dX7_leaves_89 : decode cX7_leaves 89 = .ok (.if_icmp .gt 8, 3) := by decide +kernel
theorem dX7_leaves_92 : decode cX7_leaves 92 = .ok (.iload 5, 2) := by decide +kernel
theorem dX7_leaves_94 : decode cX7_leaves 94 = .ok (.goto 5, 3) := by decide +kernel
theorem dX7_leaves_97 : decode cX7_leaves 97 = .ok (.iload 4, 2) := by decide +kernel
theorem dX7_leaves_99 : decode cX7_leaves 99 = .ok (.istore 4, 2) := by decide +kernel
theorem dX7_leaves_101 : decode cX7_leaves 101 = .ok (.iinc 5 (-1), 3) := by decide +kernel
theorem dX7_leaves_104 : decode cX7_leaves 104 = .ok (.goto (-73), 3) := by decide +kernel
theorem dX7_leaves_107 : decode cX7_leaves 107 = .ok (.iload 4, 2) := by decide +kernel
theorem dX7_leaves_109 : decode cX7_leaves 109 = .ok (.ifCond .lt 19, 3) := by decide +kernel
theorem dX7_leaves_112 : decode cX7_leaves 112 = .ok (.aload_n 0, 1) := by decide +kernel
theorem dX7_leaves_113 : decode cX7_leaves 113 = .ok (.getfield 34, 3) := by decide +kernel
theorem dX7_leaves_116 : decode cX7_leaves 116 = .ok (.iload 4, 2) := by decide +kernel
theorem dX7_leaves_118 : decode cX7_leaves 118 = .ok (.iconst 4, 1) := by decide +kernel
theorem dX7_leaves_119 : decode cX7_leaves 119 = .ok (.iastore, 1) := by decide +kernel
theorem dX7_leaves_120 : decode cX7_leaves 120 = .ok (.aload_n 0, 1) := by decide +kernel
theorem dX7_leaves_121 : decode cX7_leaves 121 = .ok (.getfield 61, 3) := by decide +kernel
theorem dX7_leaves_124 : decode cX7_leaves 124 = .ok (.iload 4, 2) := by decide +kernel
theorem dX7_leaves_126 : decode cX7_leaves 126 = .ok (.iload_n 1, 1) := by decide +kernel
theorem dX7_leaves_127 : decode cX7_leaves 127 = .ok (.iastore, 1) := by decide +kernel
theorem dX7_leaves_128 : decode cX7_leaves 128 = .ok (.iinc 3 1, 3) := by decide +kernel
theorem dX7_leaves_131 : decode cX7_leaves 131 = .ok (.goto (-122), 3) := by decide +kernel
theorem dX7_leaves_134 : decode cX7_leaves 134 = .ok (.iinc 2 1, 3) := by decide +kernel
theorem dX7_leaves_137 : decode cX7_leaves 137 = .ok (.goto (-135), 3) := by decide +kernel
theorem dX7_leaves_140 : decode cX7_leaves 140 = .ok (.return_, 1) := by decide +kernel
theorem dX7_may_0 : decode cX7_may 0 = .ok (.aload_n 0, 1) := by decide +kernel
theorem dX7_may_1 : decode cX7_may 1 = .ok (.getfield 37, 3) := by decide +kernel
theorem dX7_may_4 : decode cX7_may 4 = .ok (.iload_n 1, 1) := by decide +kernel
theorem dX7_may_5 : decode cX7_may 5 = .ok (.iaload, 1) := by decide +kernel
theorem dX7_may_6 : decode cX7_may 6 = .ok (.istore 4, 2) := by decide +kernel
theorem dX7_may_8 : decode cX7_may 8 = .ok (.iconst 0, 1) := by decide +kernel
theorem dX7_may_9 : decode cX7_may 9 = .ok (.istore 5, 2) := by decide +kernel
theorem dX7_may_11 : decode cX7_may 11 = .ok (.iconst 0, 1) := by decide +kernel
theorem dX7_may_12 : decode cX7_may 12 = .ok (.istore 6, 2) := by decide +kernel
theorem dX7_may_14 : decode cX7_may 14 = .ok (.iload 6, 2) := by decide +kernel
theorem dX7_may_16 : decode cX7_may 16 = .ok (.aload_n 0, 1) := by decide +kernel
theorem dX7_may_17 : decode cX7_may 17 = .ok (.getfield 105, 3) := by decide +kernel
theorem dX7_may_20 : decode cX7_may 20 = .ok (.if_icmp .ge 53, 3) := by decide +kernel
theorem dX7_may_23 : decode cX7_may 23 = .ok (.iload 5, 2) := by decide +kernel
theorem dX7_may_25 : decode cX7_may 25 = .ok (.ifCond .ne 35, 3) := by decide +kernel
theorem dX7_may_28 : decode cX7_may 28 = .ok (.aload_n 0, 1) := by decide +kernel
theorem dX7_may_29 : decode cX7_may 29 = .ok (.iload 6, 2) := by decide +kernel
theorem dX7_may_31 : decode cX7_may 31 = .ok (.iload_n 2, 1) := by decide +kernel
theorem dX7_may_32 : decode cX7_may 32 = .ok (.invokevirtual 194, 3) := by decide +kernel
theorem dX7_may_35 : decode cX7_may 35 = .ok (.ifCond .eq 29, 3) := by decide +kernel
theorem dX7_may_38 : decode cX7_may 38 = .ok (.aload_n 0, 1) := by decide +kernel
theorem dX7_may_39 : decode cX7_may 39 = .ok (.getfield 43, 3) := by decide +kernel
theorem dX7_may_42 : decode cX7_may 42 = .ok (.iload 6, 2) := by decide +kernel
theorem dX7_may_44 : decode cX7_may 44 = .ok (.iaload, 1) := by decide +kernel
theorem dX7_may_45 : decode cX7_may 45 = .ok (.iconst 2, 1) := by decide +kernel
theorem dX7_may_46 : decode cX7_may 46 = .ok (.if_icmp .ge 18, 3) := by decide +kernel
theorem dX7_may_49 : decode cX7_may 49 = .ok (.aload_n 0, 1) := by decide +kernel
theorem dX7_may_50 : decode cX7_may 50 = .ok (.getfield 37, 3) := by decide +kernel
theorem dX7_may_53 : decode cX7_may 53 = .ok (.iload 6, 2) := by decide +kernel
theorem dX7_may_55 : decode cX7_may 55 = .ok (.iaload, 1) := by decide +kernel
theorem dX7_may_56 : decode cX7_may 56 = .ok (.iconst 3, 1) := by decide +kernel
theorem dX7_may_57 : decode cX7_may 57 = .ok (.if_icmp .eq 7, 3) := by decide +kernel
theorem dX7_may_60 : decode cX7_may 60 = .ok (.iconst 1, 1) := by decide +kernel
theorem dX7_may_61 : decode cX7_may 61 = .ok (.goto 4, 3) := by decide +kernel
theorem dX7_may_64 : decode cX7_may 64 = .ok (.iconst 0, 1) := by decide +kernel
theorem dX7_may_65 : decode cX7_may 65 = .ok (.istore 5, 2) := by decide +kernel
theorem dX7_may_67 : decode cX7_may 67 = .ok (.iinc 6 1, 3) := by decide +kernel
theorem dX7_may_70 : decode cX7_may 70 = .ok (.goto (-56), 3) := by decide +kernel
theorem dX7_may_73 : decode cX7_may 73 = .ok (.aload_n 0, 1) := by decide +kernel
theorem dX7_may_74 : decode cX7_may 74 = .ok (.getfield 188, 3) := by decide +kernel
theorem dX7_may_77 : decode cX7_may 77 = .ok (.ifCond .eq 18, 3) := by decide +kernel
theorem dX7_may_80 : decode cX7_may 80 = .ok (.iload_n 3, 1) := by decide +kernel
theorem dX7_may_81 : decode cX7_may 81 = .ok (.iload 4, 2) := by decide +kernel
theorem dX7_may_83 : decode cX7_may 83 = .ok (.iconst 1, 1) := by decide +kernel
theorem dX7_may_84 : decode cX7_may 84 = .ok (.if_icmp .ne 7, 3) := by decide +kernel
theorem dX7_may_87 : decode cX7_may 87 = .ok (.iconst 1, 1) := by decide +kernel
theorem dX7_may_88 : decode cX7_may 88 = .ok (.goto 4, 3) := by decide +kernel
theorem dX7_may_91 : decode cX7_may 91 = .ok (.iconst 0, 1) := by decide +kernel
theorem dX7_may_92 : decode cX7_may 92 = .ok (.if_icmp .ne 7, 3) := by decide +kernel
theorem dX7_may_95 : decode cX7_may 95 = .ok (.iconst 1, 1) := by decide +kernel
theorem dX7_may_96 : decode cX7_may 96 = .ok (.goto 4, 3) := by decide +kernel
theorem dX7_may_99 : decode cX7_may 99 = .ok (.iconst 0, 1) := by decide +kernel
theorem dX7_may_100 : decode cX7_may 100 = .ok (.istore 6, 2) := by decide +kernel
theorem dX7_may_102 : decode cX7_may 102 = .ok (.iload 4, 2) := by decide +kernel
theorem dX7_may_104 : decode cX7_may 104 = .ok (.iconst 2, 1) := by decide +kernel
theorem dX7_may_105 : decode cX7_may 105 = .ok (.if_icmp .ne 17, 3) := by decide +kernel
theorem dX7_may_108 : decode cX7_may 108 = .ok (.iload_n 3, 1) := by decide +kernel
theorem dX7_may_109 : decode cX7_may 109 = .ok (.ifCond .ne 17, 3) := by decide +kernel
theorem dX7_may_112 : decode cX7_may 112 = .ok (.aload_n 0, 1) := by decide +kernel
theorem dX7_may_113 : decode cX7_may 113 = .ok (.iload_n 2, 1) := by decide +kernel
theorem dX7_may_114 : decode cX7_may 114 = .ok (.iconst 0, 1) := by decide +kernel
theorem dX7_may_115 : decode cX7_may 115 = .ok (.iconst 1, 1) := by decide +kernel
theorem dX7_may_116 : decode cX7_may 116 = .ok (.invokevirtual 200, 3) := by decide +kernel
theorem dX7_may_119 : decode cX7_may 119 = .ok (.ifCond .ge 7, 3) := by decide +kernel
theorem dX7_may_122 : decode cX7_may 122 = .ok (.iconst 1, 1) := by decide +kernel
theorem dX7_may_123 : decode cX7_may 123 = .ok (.goto 4, 3) := by decide +kernel
theorem dX7_may_126 : decode cX7_may 126 = .ok (.iconst 0, 1) := by decide +kernel
theorem dX7_may_127 : decode cX7_may 127 = .ok (.istore 7, 2) := by decide +kernel
theorem dX7_may_129 : decode cX7_may 129 = .ok (.iload 6, 2) := by decide +kernel
theorem dX7_may_131 : decode cX7_may 131 = .ok (.ifCond .eq 39, 3) := by decide +kernel
theorem dX7_may_134 : decode cX7_may 134 = .ok (.iload 7, 2) := by decide +kernel
theorem dX7_may_136 : decode cX7_may 136 = .ok (.ifCond .eq 34, 3) := by decide +kernel
theorem dX7_may_139 : decode cX7_may 139 = .ok (.iload 4, 2) := by decide +kernel
theorem dX7_may_141 : decode cX7_may 141 = .ok (.iconst 4, 1) := by decide +kernel
theorem dX7_may_142 : decode cX7_may 142 = .ok (.if_icmp .ne 13, 3) := by decide +kernel
theorem dX7_may_145 : decode cX7_may 145 = .ok (.aload_n 0, 1) := by decide +kernel
theorem dX7_may_146 : decode cX7_may 146 = .ok (.getfield 31, 3) := by decide +kernel
theorem dX7_may_149 : decode cX7_may 149 = .ok (.iload_n 2, 1) := by decide +kernel
theorem dX7_may_150 : decode cX7_may 150 = .ok (.iaload, 1) := by decide +kernel
theorem dX7_may_151 : decode cX7_may 151 = .ok (.iconst 1, 1) := by decide +kernel
theorem dX7_may_152 : decode cX7_may 152 = .ok (.if_icmp .ne 18, 3) := by decide +kernel
theorem dX7_may_155 : decode cX7_may 155 = .ok (.iload 4, 2) := by decide +kernel
theorem dX7_may_157 : decode cX7_may 157 = .ok (.iconst 3, 1) := by decide +kernel
theorem dX7_may_158 : decode cX7_may 158 = .ok (.if_icmp .ne 8, 3) := by decide +kernel
theorem dX7_may_161 : decode cX7_may 161 = .ok (.iload 5, 2) := by decide +kernel
theorem dX7_may_163 : decode cX7_may 163 = .ok (.ifCond .eq 7, 3) := by decide +kernel
theorem dX7_may_166 : decode cX7_may 166 = .ok (.iconst 1, 1) := by decide +kernel
theorem dX7_may_167 : decode cX7_may 167 = .ok (.goto 4, 3) := by decide +kernel
theorem dX7_may_170 : decode cX7_may 170 = .ok (.iconst 0, 1) := by decide +kernel
theorem dX7_may_171 : decode cX7_may 171 = .ok (.ireturn, 1) := by decide +kernel
theorem dX7_stepsOn_0 : decode cX7_stepsOn 0 = .ok (.aload_n 0, 1) := by decide +kernel
theorem dX7_stepsOn_1 : decode cX7_stepsOn 1 = .ok (.getfield 67, 3) := by decide +kernel
theorem dX7_stepsOn_4 : decode cX7_stepsOn 4 = .ok (.iload_n 1, 1) := by decide +kernel
theorem dX7_stepsOn_5 : decode cX7_stepsOn 5 = .ok (.iaload, 1) := by decide +kernel
theorem dX7_stepsOn_6 : decode cX7_stepsOn 6 = .ok (.iconst 1, 1) := by decide +kernel
theorem dX7_stepsOn_7 : decode cX7_stepsOn 7 = .ok (.if_icmp .ne 7, 3) := by decide +kernel
theorem dX7_stepsOn_10 : decode cX7_stepsOn 10 = .ok (.iconst 0, 1) := by decide +kernel
theorem dX7_stepsOn_11 : decode cX7_stepsOn 11 = .ok (.goto 4, 3) := by decide +kernel
theorem dX7_stepsOn_14 : decode cX7_stepsOn 14 = .ok (.iconst 1, 1) := by decide +kernel
theorem dX7_stepsOn_15 : decode cX7_stepsOn 15 = .ok (.istore_n 3, 1) := by decide +kernel
theorem dX7_stepsOn_16 : decode cX7_stepsOn 16 = .ok (.iconst 0, 1) := by decide +kernel
theorem dX7_stepsOn_17 : decode cX7_stepsOn 17 = .ok (.istore 4, 2) := by decide +kernel
theorem dX7_stepsOn_19 : decode cX7_stepsOn 19 = .ok (.iload 4, 2) := by decide +kernel
theorem dX7_stepsOn_21 : decode cX7_stepsOn 21 = .ok (.iconst 2, 1) := by decide +kernel
theorem dX7_stepsOn_22 : decode cX7_stepsOn 22 = .ok (.if_icmp .ge 200, 3) := by decide +kernel
theorem dX7_stepsOn_25 : decode cX7_stepsOn 25 = .ok (.bipush (-4), 2) := by decide +kernel
theorem dX7_stepsOn_27 : decode cX7_stepsOn 27 = .ok (.istore 5, 2) := by decide +kernel
theorem dX7_stepsOn_29 : decode cX7_stepsOn 29 = .ok (.aload_n 0, 1) := by decide +kernel
theorem dX7_stepsOn_30 : decode cX7_stepsOn 30 = .ok (.getfield 105, 3) := by decide +kernel
theorem dX7_stepsOn_33 : decode cX7_stepsOn 33 = .ok (.iconst 1, 1) := by decide +kernel
theorem dX7_stepsOn_34 : decode cX7_stepsOn 34 = .ok (.isub, 1) := by decide +kernel
theorem dX7_stepsOn_35 : decode cX7_stepsOn 35 = .ok (.istore 6, 2) := by decide +kernel
theorem dX7_stepsOn_37 : decode cX7_stepsOn 37 = .ok (.iload 6, 2) := by decide +kernel
theorem dX7_stepsOn_39 : decode cX7_stepsOn 39 = .ok (.ifCond .lt 94, 3) := by decide +kernel
theorem dX7_stepsOn_42 : decode cX7_stepsOn 42 = .ok (.aload_n 0, 1) := by decide +kernel
theorem dX7_stepsOn_43 : decode cX7_stepsOn 43 = .ok (.getfield 34, 3) := by decide +kernel
theorem dX7_stepsOn_46 : decode cX7_stepsOn 46 = .ok (.iload 6, 2) := by decide +kernel
theorem dX7_stepsOn_48 : decode cX7_stepsOn 48 = .ok (.iaload, 1) := by decide +kernel
theorem dX7_stepsOn_49 : decode cX7_stepsOn 49 = .ok (.iconst 1, 1) := by decide +kernel
theorem dX7_stepsOn_50 : decode cX7_stepsOn 50 = .ok (.if_icmp .ne 34, 3) := by decide +kernel
theorem dX7_stepsOn_53 : decode cX7_stepsOn 53 = .ok (.aload_n 0, 1) := by decide +kernel
theorem dX7_stepsOn_54 : decode cX7_stepsOn 54 = .ok (.getfield 16, 3) := by decide +kernel
theorem dX7_stepsOn_57 : decode cX7_stepsOn 57 = .ok (.iconst 3, 1) := by decide +kernel
theorem dX7_stepsOn_58 : decode cX7_stepsOn 58 = .ok (.iload 6, 2) := by decide +kernel
theorem dX7_stepsOn_60 : decode cX7_stepsOn 60 = .ok (.imul, 1) := by decide +kernel
theorem dX7_stepsOn_61 : decode cX7_stepsOn 61 = .ok (.iconst 1, 1) := by decide +kernel
theorem dX7_stepsOn_62 : decode cX7_stepsOn 62 = .ok (.iadd, 1) := by decide +kernel
theorem dX7_stepsOn_63 : decode cX7_stepsOn 63 = .ok (.iaload, 1) := by decide +kernel
theorem dX7_stepsOn_64 : decode cX7_stepsOn 64 = .ok (.iload_n 3, 1) := by decide +kernel
theorem dX7_stepsOn_65 : decode cX7_stepsOn 65 = .ok (.if_icmp .ne 19, 3) := by decide +kernel
theorem dX7_stepsOn_68 : decode cX7_stepsOn 68 = .ok (.aload_n 0, 1) := by decide +kernel
theorem dX7_stepsOn_69 : decode cX7_stepsOn 69 = .ok (.iload 6, 2) := by decide +kernel
theorem dX7_stepsOn_71 : decode cX7_stepsOn 71 = .ok (.iload_n 1, 1) := by decide +kernel
theorem dX7_stepsOn_72 : decode cX7_stepsOn 72 = .ok (.iload 4, 2) := by decide +kernel
theorem dX7_stepsOn_74 : decode cX7_stepsOn 74 = .ok (.invokevirtual 203, 3) := by decide +kernel
theorem dX7_stepsOn_77 : decode cX7_stepsOn 77 = .ok (.ifCond .eq 7, 3) := by decide +kernel
theorem dX7_stepsOn_80 : decode cX7_stepsOn 80 = .ok (.iconst 1, 1) := by decide +kernel
theorem dX7_stepsOn_81 : decode cX7_stepsOn 81 = .ok (.goto 4, 3) := by decide +kernel
theorem dX7_stepsOn_84 : decode cX7_stepsOn 84 = .ok (.iconst 0, 1) := by decide +kernel
theorem dX7_stepsOn_85 : decode cX7_stepsOn 85 = .ok (.istore 7, 2) := by decide +kernel
theorem dX7_stepsOn_87 : decode cX7_stepsOn 87 = .ok (.iload 7, 2) := by decide +kernel
theorem dX7_stepsOn_89 : decode cX7_stepsOn 89 = .ok (.ifCond .eq 34, 3) := by decide +kernel
theorem dX7_stepsOn_92 : decode cX7_stepsOn 92 = .ok (.iload 5, 2) := by decide +kernel
theorem dX7_stepsOn_94 : decode cX7_stepsOn 94 = .ok (.ifCond .lt 24, 3) := by decide +kernel
theorem dX7_stepsOn_97 : decode cX7_stepsOn 97 = .ok (.aload_n 0, 1) := by decide +kernel
theorem dX7_stepsOn_98 : decode cX7_stepsOn 98 = .ok (.getfield 16, 3) := by decide +kernel
theorem dX7_stepsOn_101 : decode cX7_stepsOn 101 = .ok (.iconst 3, 1) := by decide +kernel
theorem dX7_stepsOn_102 : decode cX7_stepsOn 102 = .ok (.iload 6, 2) := by decide +kernel
theorem dX7_stepsOn_104 : decode cX7_stepsOn 104 = .ok (.imul, 1) := by decide +kernel
theorem dX7_stepsOn_105 : decode cX7_stepsOn 105 = .ok (.iaload, 1) := by decide +kernel
theorem dX7_stepsOn_106 : decode cX7_stepsOn 106 = .ok (.aload_n 0, 1) := by decide +kernel
theorem dX7_stepsOn_107 : decode cX7_stepsOn 107 = .ok (.getfield 16, 3) := by decide +kernel
theorem dX7_stepsOn_110 : decode cX7_stepsOn 110 = .ok (.iconst 3, 1) := by decide +kernel
theorem dX7_stepsOn_111 : decode cX7_stepsOn 111 = .ok (.iload 5, 2) := by decide +kernel
theorem dX7_stepsOn_113 : decode cX7_stepsOn 113 = .ok (.imul, 1) := by decide +kernel
theorem dX7_stepsOn_114 : decode cX7_stepsOn 114 = .ok (.iaload, 1) := by decide +kernel
theorem dX7_stepsOn_115 : decode cX7_stepsOn 115 = .ok (.if_icmp .gt 8, 3) := by decide +kernel
theorem dX7_stepsOn_118 : decode cX7_stepsOn 118 = .ok (.iload 6, 2) := by decide +kernel
theorem dX7_stepsOn_120 : decode cX7_stepsOn 120 = .ok (.goto 5, 3) := by decide +kernel
theorem dX7_stepsOn_123 : decode cX7_stepsOn 123 = .ok (.iload 5, 2) := by decide +kernel
theorem dX7_stepsOn_125 : decode cX7_stepsOn 125 = .ok (.istore 5, 2) := by decide +kernel
theorem dX7_stepsOn_127 : decode cX7_stepsOn 127 = .ok (.iinc 6 (-1), 3) := by decide +kernel
theorem dX7_stepsOn_130 : decode cX7_stepsOn 130 = .ok (.goto (-93), 3) := by decide +kernel
theorem dX7_stepsOn_133 : decode cX7_stepsOn 133 = .ok (.aload_n 0, 1) := by decide +kernel
theorem dX7_stepsOn_134 : decode cX7_stepsOn 134 = .ok (.iload_n 1, 1) := by decide +kernel
theorem dX7_stepsOn_135 : decode cX7_stepsOn 135 = .ok (.iconst 0, 1) := by decide +kernel
theorem dX7_stepsOn_136 : decode cX7_stepsOn 136 = .ok (.iload 4, 2) := by decide +kernel
theorem dX7_stepsOn_138 : decode cX7_stepsOn 138 = .ok (.invokevirtual 200, 3) := by decide +kernel
theorem dX7_stepsOn_141 : decode cX7_stepsOn 141 = .ok (.ifCond .ge 75, 3) := by decide +kernel
theorem dX7_stepsOn_144 : decode cX7_stepsOn 144 = .ok (.iload 5, 2) := by decide +kernel
theorem dX7_stepsOn_146 : decode cX7_stepsOn 146 = .ok (.ifCond .lt 70, 3) := by decide +kernel
theorem dX7_stepsOn_149 : decode cX7_stepsOn 149 = .ok (.aload_n 0, 1) := by decide +kernel
theorem dX7_stepsOn_150 : decode cX7_stepsOn 150 = .ok (.getfield 34, 3) := by decide +kernel
theorem dX7_stepsOn_153 : decode cX7_stepsOn 153 = .ok (.iload 5, 2) := by decide +kernel
theorem dX7_stepsOn_155 : decode cX7_stepsOn 155 = .ok (.iconst 2, 1) := by decide +kernel
theorem dX7_stepsOn_156 : decode cX7_stepsOn 156 = .ok (.iastore, 1) := by decide +kernel
theorem dX7_stepsOn_157 : decode cX7_stepsOn 157 = .ok (.aload_n 0, 1) := by decide +kernel
theorem dX7_stepsOn_158 : decode cX7_stepsOn 158 = .ok (.getfield 40, 3) := by decide +kernel
theorem dX7_stepsOn_161 : decode cX7_stepsOn 161 = .ok (.iload 5, 2) := by decide +kernel
theorem dX7_stepsOn_163 : decode cX7_stepsOn 163 = .ok (.iload_n 1, 1) := by decide +kernel
theorem dX7_stepsOn_164 : decode cX7_stepsOn 164 = .ok (.iastore, 1) := by decide +kernel
theorem dX7_stepsOn_165 : decode cX7_stepsOn 165 = .ok (.aload_n 0, 1) := by decide +kernel
theorem dX7_stepsOn_166 : decode cX7_stepsOn 166 = .ok (.getfield 43, 3) := by decide +kernel
theorem dX7_stepsOn_169 : decode cX7_stepsOn 169 = .ok (.iload 5, 2) := by decide +kernel
theorem dX7_stepsOn_171 : decode cX7_stepsOn 171 = .ok (.iconst 0, 1) := by decide +kernel
theorem dX7_stepsOn_172 : decode cX7_stepsOn 172 = .ok (.iastore, 1) := by decide +kernel
theorem dX7_stepsOn_173 : decode cX7_stepsOn 173 = .ok (.aload_n 0, 1) := by decide +kernel
theorem dX7_stepsOn_174 : decode cX7_stepsOn 174 = .ok (.getfield 46, 3) := by decide +kernel
theorem dX7_stepsOn_177 : decode cX7_stepsOn 177 = .ok (.iload 5, 2) := by decide +kernel
theorem dX7_stepsOn_179 : decode cX7_stepsOn 179 = .ok (.iload 4, 2) := by decide +kernel
theorem dX7_stepsOn_181 : decode cX7_stepsOn 181 = .ok (.iastore, 1) := by decide +kernel
theorem dX7_stepsOn_182 : decode cX7_stepsOn 182 = .ok (.aload_n 0, 1) := by decide +kernel
theorem dX7_stepsOn_183 : decode cX7_stepsOn 183 = .ok (.getfield 55, 3) := by decide +kernel
theorem dX7_stepsOn_186 : decode cX7_stepsOn 186 = .ok (.iload 5, 2) := by decide +kernel
theorem dX7_stepsOn_188 : decode cX7_stepsOn 188 = .ok (.iload_n 2, 1) := by decide +kernel
theorem dX7_stepsOn_189 : decode cX7_stepsOn 189 = .ok (.iastore, 1) := by decide +kernel
theorem dX7_stepsOn_190 : decode cX7_stepsOn 190 = .ok (.aload_n 0, 1) := by decide +kernel
theorem dX7_stepsOn_191 : decode cX7_stepsOn 191 = .ok (.getfield 58, 3) := by decide +kernel
theorem dX7_stepsOn_194 : decode cX7_stepsOn 194 = .ok (.iload 5, 2) := by decide +kernel
theorem dX7_stepsOn_196 : decode cX7_stepsOn 196 = .ok (.iload_n 1, 1) := by decide +kernel
theorem dX7_stepsOn_197 : decode cX7_stepsOn 197 = .ok (.iastore, 1) := by decide +kernel
theorem dX7_stepsOn_198 : decode cX7_stepsOn 198 = .ok (.aload_n 0, 1) := by decide +kernel
theorem dX7_stepsOn_199 : decode cX7_stepsOn 199 = .ok (.getfield 64, 3) := by decide +kernel
theorem dX7_stepsOn_202 : decode cX7_stepsOn 202 = .ok (.iload 5, 2) := by decide +kernel
theorem dX7_stepsOn_204 : decode cX7_stepsOn 204 = .ok (.iload_n 2, 1) := by decide +kernel
theorem dX7_stepsOn_205 : decode cX7_stepsOn 205 = .ok (.aload_n 0, 1) := by decide +kernel
theorem dX7_stepsOn_206 : decode cX7_stepsOn 206 = .ok (.getfield 16, 3) := by decide +kernel
theorem dX7_stepsOn_209 : decode cX7_stepsOn 209 = .ok (.iconst 3, 1) := by decide +kernel
theorem dX7_stepsOn_210 : decode cX7_stepsOn 210 = .ok (.iload 5, 2) := by decide +kernel
theorem dX7_stepsOn_212 : decode cX7_stepsOn 212 = .ok (.imul, 1) := by decide +kernel
theorem dX7_stepsOn_213 : decode cX7_stepsOn 213 = .ok (.iaload, 1) := by decide +kernel
theorem dX7_stepsOn_214 : decode cX7_stepsOn 214 = .ok (.isub, 1) := by decide +kernel
theorem dX7_stepsOn_215 : decode cX7_stepsOn 215 = .ok (.iastore, 1) := by decide +kernel
theorem dX7_stepsOn_216 : decode cX7_stepsOn 216 = .ok (.iinc 4 1, 3) := by decide +kernel
theorem dX7_stepsOn_219 : decode cX7_stepsOn 219 = .ok (.goto (-200), 3) := by decide +kernel
theorem dX7_stepsOn_222 : decode cX7_stepsOn 222 = .ok (.return_, 1) := by decide +kernel
theorem dX7_loads_0 : decode cX7_loads 0 = .ok (.aload_n 0, 1) := by decide +kernel
theorem dX7_loads_1 : decode cX7_loads 1 = .ok (.iload_n 1, 1) := by decide +kernel
theorem dX7_loads_2 : decode cX7_loads 2 = .ok (.invokevirtual 207, 3) := by decide +kernel
theorem dX7_loads_5 : decode cX7_loads 5 = .ok (.istore_n 2, 1) := by decide +kernel
theorem dX7_loads_6 : decode cX7_loads 6 = .ok (.aload_n 0, 1) := by decide +kernel
theorem dX7_loads_7 : decode cX7_loads 7 = .ok (.getfield 70, 3) := by decide +kernel
theorem dX7_loads_10 : decode cX7_loads 10 = .ok (.iload_n 1, 1) := by decide +kernel
theorem dX7_loads_11 : decode cX7_loads 11 = .ok (.iaload, 1) := by decide +kernel
theorem dX7_loads_12 : decode cX7_loads 12 = .ok (.ifCond .le 7, 3) := by decide +kernel
theorem dX7_loads_15 : decode cX7_loads 15 = .ok (.iconst 1, 1) := by decide +kernel
theorem dX7_loads_16 : decode cX7_loads 16 = .ok (.goto 4, 3) := by decide +kernel
theorem dX7_loads_19 : decode cX7_loads 19 = .ok (.iconst 0, 1) := by decide +kernel
theorem dX7_loads_20 : decode cX7_loads 20 = .ok (.istore_n 3, 1) := by decide +kernel
theorem dX7_loads_21 : decode cX7_loads 21 = .ok (.aload_n 0, 1) := by decide +kernel
theorem dX7_loads_22 : decode cX7_loads 22 = .ok (.getfield 67, 3) := by decide +kernel
theorem dX7_loads_25 : decode cX7_loads 25 = .ok (.iload_n 1, 1) := by decide +kernel
theorem dX7_loads_26 : decode cX7_loads 26 = .ok (.iaload, 1) := by decide +kernel
theorem dX7_loads_27 : decode cX7_loads 27 = .ok (.ifCond .le 69, 3) := by decide +kernel
theorem dX7_loads_30 : decode cX7_loads 30 = .ok (.iload_n 3, 1) := by decide +kernel
theorem dX7_loads_31 : decode cX7_loads 31 = .ok (.ifCond .ne 65, 3) := by decide +kernel
theorem dX7_loads_34 : decode cX7_loads 34 = .ok (.aload_n 0, 1) := by decide +kernel
theorem dX7_loads_35 : decode cX7_loads 35 = .ok (.getfield 7, 3) := by decide +kernel
theorem dX7_loads_38 : decode cX7_loads 38 = .ok (.iconst 5, 1) := by decide +kernel
theorem dX7_loads_39 : decode cX7_loads 39 = .ok (.iaload, 1) := by decide +kernel
theorem dX7_loads_40 : decode cX7_loads 40 = .ok (.iload_n 2, 1) := by decide +kernel
theorem dX7_loads_41 : decode cX7_loads 41 = .ok (.aload_n 0, 1) := by decide +kernel
theorem dX7_loads_42 : decode cX7_loads 42 = .ok (.getfield 7, 3) := by decide +kernel
theorem dX7_loads_45 : decode cX7_loads 45 = .ok (.bipush 6, 2) := by decide +kernel
theorem dX7_loads_47 : decode cX7_loads 47 = .ok (.iaload, 1) := by decide +kernel
theorem dX7_loads_48 : decode cX7_loads 48 = .ok (.imul, 1) := by decide +kernel
theorem dX7_loads_49 : decode cX7_loads 49 = .ok (.bipush 10, 2) := by decide +kernel
theorem dX7_loads_51 : decode cX7_loads 51 = .ok (.idiv, 1) := by decide +kernel
theorem dX7_loads_52 : decode cX7_loads 52 = .ok (.isub, 1) := by decide +kernel
theorem dX7_loads_53 : decode cX7_loads 53 = .ok (.istore 4, 2) := by decide +kernel
theorem dX7_loads_55 : decode cX7_loads 55 = .ok (.aload_n 0, 1) := by decide +kernel
theorem dX7_loads_56 : decode cX7_loads 56 = .ok (.dup, 1) := by decide +kernel
theorem dX7_loads_57 : decode cX7_loads 57 = .ok (.getfield 210, 3) := by decide +kernel
theorem dX7_loads_60 : decode cX7_loads 60 = .ok (.aload_n 0, 1) := by decide +kernel
theorem dX7_loads_61 : decode cX7_loads 61 = .ok (.getfield 67, 3) := by decide +kernel
theorem dX7_loads_64 : decode cX7_loads 64 = .ok (.iload_n 1, 1) := by decide +kernel
theorem dX7_loads_65 : decode cX7_loads 65 = .ok (.iaload, 1) := by decide +kernel
theorem dX7_loads_66 : decode cX7_loads 66 = .ok (.iconst 1, 1) := by decide +kernel
theorem dX7_loads_67 : decode cX7_loads 67 = .ok (.if_icmp .ne 14, 3) := by decide +kernel
theorem dX7_loads_70 : decode cX7_loads 70 = .ok (.aload_n 0, 1) := by decide +kernel
theorem dX7_loads_71 : decode cX7_loads 71 = .ok (.getfield 7, 3) := by decide +kernel
theorem dX7_loads_74 : decode cX7_loads 74 = .ok (.iconst 5, 1) := by decide +kernel
theorem dX7_loads_75 : decode cX7_loads 75 = .ok (.iaload, 1) := by decide +kernel
theorem dX7_loads_76 : decode cX7_loads 76 = .ok (.iload_n 2, 1) := by decide +kernel
theorem dX7_loads_77 : decode cX7_loads 77 = .ok (.iadd, 1) := by decide +kernel
theorem dX7_loads_78 : decode cX7_loads 78 = .ok (.goto 14, 3) := by decide +kernel
theorem dX7_loads_81 : decode cX7_loads 81 = .ok (.iload 4, 2) := by decide +kernel
theorem dX7_loads_83 : decode cX7_loads 83 = .ok (.ifCond .ge 7, 3) := by decide +kernel
theorem dX7_loads_86 : decode cX7_loads 86 = .ok (.iconst 0, 1) := by decide +kernel
theorem dX7_loads_87 : decode cX7_loads 87 = .ok (.goto 5, 3) := by decide +kernel
theorem dX7_loads_90 : decode cX7_loads 90 = .ok (.iload 4, 2) := by decide +kernel
theorem dX7_loads_92 : decode cX7_loads 92 = .ok (.iadd, 1) := by decide +kernel
theorem dX7_loads_93 : decode cX7_loads 93 = .ok (.putfield 210, 3) := by decide +kernel
theorem dX7_loads_96 : decode cX7_loads 96 = .ok (.aload_n 0, 1) := by decide +kernel
theorem dX7_loads_97 : decode cX7_loads 97 = .ok (.getfield 70, 3) := by decide +kernel
theorem dX7_loads_100 : decode cX7_loads 100 = .ok (.iload_n 1, 1) := by decide +kernel
theorem dX7_loads_101 : decode cX7_loads 101 = .ok (.dup2, 1) := by decide +kernel
theorem dX7_loads_102 : decode cX7_loads 102 = .ok (.iaload, 1) := by decide +kernel
theorem dX7_loads_103 : decode cX7_loads 103 = .ok (.iload_n 3, 1) := by decide +kernel
theorem dX7_loads_104 : decode cX7_loads 104 = .ok (.ifCond .eq 7, 3) := by decide +kernel
theorem dX7_loads_107 : decode cX7_loads 107 = .ok (.iconst 1, 1) := by decide +kernel
theorem dX7_loads_108 : decode cX7_loads 108 = .ok (.goto 4, 3) := by decide +kernel
theorem dX7_loads_111 : decode cX7_loads 111 = .ok (.iconst 0, 1) := by decide +kernel
theorem dX7_loads_112 : decode cX7_loads 112 = .ok (.isub, 1) := by decide +kernel
theorem dX7_loads_113 : decode cX7_loads 113 = .ok (.iastore, 1) := by decide +kernel
theorem dX7_loads_114 : decode cX7_loads 114 = .ok (.iload_n 3, 1) := by decide +kernel
theorem dX7_loads_115 : decode cX7_loads 115 = .ok (.ifCond .ne 105, 3) := by decide +kernel
theorem dX7_loads_118 : decode cX7_loads 118 = .ok (.iload_n 2, 1) := by decide +kernel
theorem dX7_loads_119 : decode cX7_loads 119 = .ok (.aload_n 0, 1) := by decide +kernel
theorem dX7_loads_120 : decode cX7_loads 120 = .ok (.getfield 7, 3) := by decide +kernel
theorem dX7_loads_123 : decode cX7_loads 123 = .ok (.iconst 3, 1) := by decide +kernel
theorem dX7_loads_124 : decode cX7_loads 124 = .ok (.iaload, 1) := by decide +kernel
theorem dX7_loads_125 : decode cX7_loads 125 = .ok (.if_icmp .le 95, 3) := by decide +kernel
theorem dX7_loads_128 : decode cX7_loads 128 = .ok (.aload_n 0, 1) := by decide +kernel
theorem dX7_loads_129 : decode cX7_loads 129 = .ok (.getfield 70, 3) := by decide +kernel
theorem dX7_loads_132 : decode cX7_loads 132 = .ok (.iload_n 1, 1) := by decide +kernel
theorem dX7_loads_133 : decode cX7_loads 133 = .ok (.aload_n 0, 1) := by decide +kernel
theorem dX7_loads_134 : decode cX7_loads 134 = .ok (.getfield 7, 3) := by decide +kernel
theorem dX7_loads_137 : decode cX7_loads 137 = .ok (.iconst 4, 1) := by decide +kernel
theorem dX7_loads_138 : decode cX7_loads 138 = .ok (.iaload, 1) := by decide +kernel
theorem dX7_loads_139 : decode cX7_loads 139 = .ok (.iastore, 1) := by decide +kernel
theorem dX7_loads_140 : decode cX7_loads 140 = .ok (.aload_n 0, 1) := by decide +kernel
theorem dX7_loads_141 : decode cX7_loads 141 = .ok (.dup, 1) := by decide +kernel
theorem dX7_loads_142 : decode cX7_loads 142 = .ok (.getfield 213, 3) := by decide +kernel
theorem dX7_loads_145 : decode cX7_loads 145 = .ok (.iconst 1, 1) := by decide +kernel
theorem dX7_loads_146 : decode cX7_loads 146 = .ok (.iadd, 1) := by decide +kernel
theorem dX7_loads_147 : decode cX7_loads 147 = .ok (.putfield 213, 3) := by decide +kernel
theorem dX7_loads_150 : decode cX7_loads 150 = .ok (.iconst 0, 1) := by decide +kernel
theorem dX7_loads_151 : decode cX7_loads 151 = .ok (.istore 4, 2) := by decide +kernel
theorem dX7_loads_153 : decode cX7_loads 153 = .ok (.iload 4, 2) := by decide +kernel
theorem dX7_loads_155 : decode cX7_loads 155 = .ok (.aload_n 0, 1) := by decide +kernel
theorem dX7_loads_156 : decode cX7_loads 156 = .ok (.getfield 105, 3) := by decide +kernel
theorem dX7_loads_159 : decode cX7_loads 159 = .ok (.if_icmp .ge 61, 3) := by decide +kernel
theorem dX7_loads_162 : decode cX7_loads 162 = .ok (.aload_n 0, 1) := by decide +kernel
theorem dX7_loads_163 : decode cX7_loads 163 = .ok (.getfield 31, 3) := by decide +kernel
theorem dX7_loads_166 : decode cX7_loads 166 = .ok (.iload_n 1, 1) := by decide +kernel
theorem dX7_loads_167 : decode cX7_loads 167 = .ok (.iaload, 1) := by decide +kernel
theorem dX7_loads_168 : decode cX7_loads 168 = .ok (.iconst 2, 1) := by decide +kernel
theorem dX7_loads_169 : decode cX7_loads 169 = .ok (.if_icmp .ne 51, 3) := by decide +kernel
theorem dX7_loads_172 : decode cX7_loads 172 = .ok (.aload_n 0, 1) := by decide +kernel
theorem dX7_loads_173 : decode cX7_loads 173 = .ok (.iload 4, 2) := by decide +kernel
theorem dX7_loads_175 : decode cX7_loads 175 = .ok (.iload_n 1, 1) := by decide +kernel
theorem dX7_loads_176 : decode cX7_loads 176 = .ok (.invokevirtual 194, 3) := by decide +kernel
theorem dX7_loads_179 : decode cX7_loads 179 = .ok (.ifCond .eq 35, 3) := by decide +kernel
theorem dX7_loads_182 : decode cX7_loads 182 = .ok (.aload_n 0, 1) := by decide +kernel
theorem dX7_loads_183 : decode cX7_loads 183 = .ok (.getfield 37, 3) := by decide +kernel
theorem dX7_loads_186 : decode cX7_loads 186 = .ok (.iload 4, 2) := by decide +kernel
theorem dX7_loads_188 : decode cX7_loads 188 = .ok (.iaload, 1) := by decide +kernel
theorem dX7_loads_189 : decode cX7_loads 189 = .ok (.iconst 1, 1) := by decide +kernel
theorem dX7_loads_190 : decode cX7_loads 190 = .ok (.if_icmp .ne 24, 3) := by decide +kernel
theorem dX7_loads_193 : decode cX7_loads 193 = .ok (.aload_n 0, 1) := by decide +kernel
theorem dX7_loads_194 : decode cX7_loads 194 = .ok (.getfield 37, 3) := by decide +kernel
theorem dX7_loads_197 : decode cX7_loads 197 = .ok (.iload 4, 2) := by decide +kernel
theorem dX7_loads_199 : decode cX7_loads 199 = .ok (.iconst 0, 1) := by decide +kernel
theorem dX7_loads_200 : decode cX7_loads 200 = .ok (.iastore, 1) := by decide +kernel
theorem dX7_loads_201 : decode cX7_loads 201 = .ok (.aload_n 0, 1) := by decide +kernel
theorem dX7_loads_202 : decode cX7_loads 202 = .ok (.dup, 1) := by decide +kernel
theorem dX7_loads_203 : decode cX7_loads 203 = .ok (.getfield 216, 3) := by decide +kernel
theorem dX7_loads_206 : decode cX7_loads 206 = .ok (.iconst 1, 1) := by decide +kernel
theorem dX7_loads_207 : decode cX7_loads 207 = .ok (.iload 4, 2) := by decide +kernel
theorem dX7_loads_209 : decode cX7_loads 209 = .ok (.ishl, 1) := by decide +kernel
theorem dX7_loads_210 : decode cX7_loads 210 = .ok (.ior, 1) := by decide +kernel
theorem dX7_loads_211 : decode cX7_loads 211 = .ok (.putfield 216, 3) := by decide +kernel
theorem dX7_loads_214 : decode cX7_loads 214 = .ok (.iinc 4 1, 3) := by decide +kernel
theorem dX7_loads_217 : decode cX7_loads 217 = .ok (.goto (-64), 3) := by decide +kernel
theorem dX7_loads_220 : decode cX7_loads 220 = .ok (.return_, 1) := by decide +kernel
theorem dX7_notes_0 : decode cX7_notes 0 = .ok (.iconst 0, 1) := by decide +kernel
theorem dX7_notes_1 : decode cX7_notes 1 = .ok (.istore_n 2, 1) := by decide +kernel
theorem dX7_notes_2 : decode cX7_notes 2 = .ok (.iload_n 2, 1) := by decide +kernel
theorem dX7_notes_3 : decode cX7_notes 3 = .ok (.iconst 4, 1) := by decide +kernel
theorem dX7_notes_4 : decode cX7_notes 4 = .ok (.if_icmp .ge 92, 3) := by decide +kernel
theorem dX7_notes_7 : decode cX7_notes 7 = .ok (.iconst 0, 1) := by decide +kernel
theorem dX7_notes_8 : decode cX7_notes 8 = .ok (.istore_n 3, 1) := by decide +kernel
theorem dX7_notes_9 : decode cX7_notes 9 = .ok (.iload_n 2, 1) := by decide +kernel
theorem dX7_notes_10 : decode cX7_notes 10 = .ok (.ifCond .ne 7, 3) := by decide +kernel
theorem dX7_notes_13 : decode cX7_notes 13 = .ok (.iconst 1, 1) := by decide +kernel
theorem dX7_notes_14 : decode cX7_notes 14 = .ok (.goto 22, 3) := by decide +kernel
theorem dX7_notes_17 : decode cX7_notes 17 = .ok (.iload_n 2, 1) := by decide +kernel
theorem dX7_notes_18 : decode cX7_notes 18 = .ok (.iconst 1, 1) := by decide +kernel
theorem dX7_notes_19 : decode cX7_notes 19 = .ok (.if_icmp .ne 7, 3) := by decide +kernel
theorem dX7_notes_22 : decode cX7_notes 22 = .ok (.iconst 3, 1) := by decide +kernel
theorem dX7_notes_23 : decode cX7_notes 23 = .ok (.goto 13, 3) := by decide +kernel
theorem dX7_notes_26 : decode cX7_notes 26 = .ok (.iload_n 2, 1) := by decide +kernel
theorem dX7_notes_27 : decode cX7_notes 27 = .ok (.iconst 2, 1) := by decide +kernel
theorem dX7_notes_28 : decode cX7_notes 28 = .ok (.if_icmp .ne 7, 3) := by decide +kernel
theorem dX7_notes_31 : decode cX7_notes 31 = .ok (.iconst 2, 1) := by decide +kernel
theorem dX7_notes_32 : decode cX7_notes 32 = .ok (.goto 4, 3) := by decide +kernel
theorem dX7_notes_35 : decode cX7_notes 35 = .ok (.iconst 4, 1) := by decide +kernel
theorem dX7_notes_36 : decode cX7_notes 36 = .ok (.istore 4, 2) := by decide +kernel
theorem dX7_notes_38 : decode cX7_notes 38 = .ok (.iconst 0, 1) := by decide +kernel
theorem dX7_notes_39 : decode cX7_notes 39 = .ok (.istore 5, 2) := by decide +kernel
theorem dX7_notes_41 : decode cX7_notes 41 = .ok (.iload 5, 2) := by decide +kernel
theorem dX7_notes_43 : decode cX7_notes 43 = .ok (.aload_n 0, 1) := by decide +kernel
theorem dX7_notes_44 : decode cX7_notes 44 = .ok (.getfield 105, 3) := by decide +kernel
theorem dX7_notes_47 : decode cX7_notes 47 = .ok (.if_icmp .ge 32, 3) := by decide +kernel
theorem dX7_notes_50 : decode cX7_notes 50 = .ok (.iload_n 3, 1) := by decide +kernel
theorem dX7_notes_51 : decode cX7_notes 51 = .ok (.aload_n 0, 1) := by decide +kernel
theorem dX7_notes_52 : decode cX7_notes 52 = .ok (.getfield 34, 3) := by decide +kernel
theorem dX7_notes_55 : decode cX7_notes 55 = .ok (.iload 5, 2) := by decide +kernel
theorem dX7_notes_57 : decode cX7_notes 57 = .ok (.iaload, 1) := by decide +kernel
theorem dX7_notes_58 : decode cX7_notes 58 = .ok (.iload 4, 2) := by decide +kernel
theorem dX7_notes_60 : decode cX7_notes 60 = .ok (.if_icmp .ne 10, 3) := by decide +kernel
theorem dX7_notes_63 : decode cX7_notes 63 = .ok (.iconst 1, 1) := by decide +kernel
theorem dX7_notes_64 : decode cX7_notes 64 = .ok (.iload 5, 2) := by decide +kernel
theorem dX7_notes_66 : decode cX7_notes 66 = .ok (.ishl, 1) := by decide +kernel
theorem dX7_notes_67 : decode cX7_notes 67 = .ok (.goto 4, 3) := by decide +kernel
theorem dX7_notes_70 : decode cX7_notes 70 = .ok (.iconst 0, 1) := by decide +kernel
theorem dX7_notes_71 : decode cX7_notes 71 = .ok (.ior, 1) := by decide +kernel
theorem dX7_notes_72 : decode cX7_notes 72 = .ok (.istore_n 3, 1) := by decide +kernel
theorem dX7_notes_73 : decode cX7_notes 73 = .ok (.iinc 5 1, 3) := by decide +kernel
theorem dX7_notes_76 : decode cX7_notes 76 = .ok (.goto (-35), 3) := by decide +kernel
theorem dX7_notes_79 : decode cX7_notes 79 = .ok (.aload_n 0, 1) := by decide +kernel
theorem dX7_notes_80 : decode cX7_notes 80 = .ok (.getfield 73, 3) := by decide +kernel
theorem dX7_notes_83 : decode cX7_notes 83 = .ok (.iconst 4, 1) := by decide +kernel
theorem dX7_notes_84 : decode cX7_notes 84 = .ok (.iload_n 1, 1) := by decide +kernel
theorem dX7_notes_85 : decode cX7_notes 85 = .ok (.imul, 1) := by decide +kernel
theorem dX7_notes_86 : decode cX7_notes 86 = .ok (.iload_n 2, 1) := by decide +kernel
theorem dX7_notes_87 : decode cX7_notes 87 = .ok (.iadd, 1) := by decide +kernel
theorem dX7_notes_88 : decode cX7_notes 88 = .ok (.iload_n 3, 1) := by decide +kernel
theorem dX7_notes_89 : decode cX7_notes 89 = .ok (.iastore, 1) := by decide +kernel
theorem dX7_notes_90 : decode cX7_notes 90 = .ok (.iinc 2 1, 3) := by decide +kernel
theorem dX7_notes_93 : decode cX7_notes 93 = .ok (.goto (-91), 3) := by decide +kernel
theorem dX7_notes_96 : decode cX7_notes 96 = .ok (.aload_n 0, 1) := by decide +kernel
theorem dX7_notes_97 : decode cX7_notes 97 = .ok (.getfield 76, 3) := by decide +kernel
theorem dX7_notes_100 : decode cX7_notes 100 = .ok (.iload_n 1, 1) := by decide +kernel
theorem dX7_notes_101 : decode cX7_notes 101 = .ok (.aload_n 0, 1) := by decide +kernel
theorem dX7_notes_102 : decode cX7_notes 102 = .ok (.getfield 70, 3) := by decide +kernel
theorem dX7_notes_105 : decode cX7_notes 105 = .ok (.iconst 0, 1) := by decide +kernel
theorem dX7_notes_106 : decode cX7_notes 106 = .ok (.iaload, 1) := by decide +kernel
theorem dX7_notes_107 : decode cX7_notes 107 = .ok (.bipush 10, 2) := by decide +kernel
theorem dX7_notes_109 : decode cX7_notes 109 = .ok (.aload_n 0, 1) := by decide +kernel
theorem dX7_notes_110 : decode cX7_notes 110 = .ok (.getfield 70, 3) := by decide +kernel
theorem dX7_notes_113 : decode cX7_notes 113 = .ok (.iconst 1, 1) := by decide +kernel
theorem dX7_notes_114 : decode cX7_notes 114 = .ok (.iaload, 1) := by decide +kernel
theorem dX7_notes_115 : decode cX7_notes 115 = .ok (.imul, 1) := by decide +kernel
theorem dX7_notes_116 : decode cX7_notes 116 = .ok (.iadd, 1) := by decide +kernel
theorem dX7_notes_117 : decode cX7_notes 117 = .ok (.bipush 100, 2) := by decide +kernel
theorem dX7_notes_119 : decode cX7_notes 119 = .ok (.aload_n 0, 1) := by decide +kernel
theorem dX7_notes_120 : decode cX7_notes 120 = .ok (.getfield 70, 3) := by decide +kernel
theorem dX7_notes_123 : decode cX7_notes 123 = .ok (.iconst 2, 1) := by decide +kernel
theorem dX7_notes_124 : decode cX7_notes 124 = .ok (.iaload, 1) := by decide +kernel
theorem dX7_notes_125 : decode cX7_notes 125 = .ok (.imul, 1) := by decide +kernel
theorem dX7_notes_126 : decode cX7_notes 126 = .ok (.iadd, 1) := by decide +kernel
theorem dX7_notes_127 : decode cX7_notes 127 = .ok (.iastore, 1) := by decide +kernel
theorem dX7_notes_128 : decode cX7_notes 128 = .ok (.bipush 60, 2) := by decide +kernel
theorem dX7_notes_130 : decode cX7_notes 130 = .ok (.iload_n 1, 1) := by decide +kernel
theorem dX7_notes_131 : decode cX7_notes 131 = .ok (.imul, 1) := by decide +kernel
theorem dX7_notes_132 : decode cX7_notes 132 = .ok (.istore_n 2, 1) := by decide +kernel
theorem dX7_notes_133 : decode cX7_notes 133 = .ok (.iload_n 2, 1) := by decide +kernel
theorem dX7_notes_134 : decode cX7_notes 134 = .ok (.bipush 60, 2) := by decide +kernel
theorem dX7_notes_136 : decode cX7_notes 136 = .ok (.iload_n 1, 1) := by decide +kernel
theorem dX7_notes_137 : decode cX7_notes 137 = .ok (.imul, 1) := by decide +kernel
theorem dX7_notes_138 : decode cX7_notes 138 = .ok (.bipush 60, 2) := by decide +kernel
theorem dX7_notes_140 : decode cX7_notes 140 = .ok (.iadd, 1) := by decide +kernel
theorem dX7_notes_141 : decode cX7_notes 141 = .ok (.if_icmp .ge 16, 3) := by decide +kernel
theorem dX7_notes_144 : decode cX7_notes 144 = .ok (.aload_n 0, 1) := by decide +kernel
theorem dX7_notes_145 : decode cX7_notes 145 = .ok (.getfield 79, 3) := by decide +kernel
theorem dX7_notes_148 : decode cX7_notes 148 = .ok (.iload_n 2, 1) := by decide +kernel
theorem dX7_notes_149 : decode cX7_notes 149 = .ok (.iconst 0, 1) := by decide +kernel
theorem dX7_notes_150 : decode cX7_notes 150 = .ok (.iastore, 1) := by decide +kernel
theorem dX7_notes_151 : decode cX7_notes 151 = .ok (.iinc 2 1, 3) := by decide +kernel
theorem dX7_notes_154 : decode cX7_notes 154 = .ok (.goto (-21), 3) := by decide +kernel
theorem dX7_notes_157 : decode cX7_notes 157 = .ok (.iconst 0, 1) := by decide +kernel
theorem dX7_notes_158 : decode cX7_notes 158 = .ok (.istore_n 2, 1) := by decide +kernel
theorem dX7_notes_159 : decode cX7_notes 159 = .ok (.iload_n 2, 1) := by decide +kernel
theorem dX7_notes_160 : decode cX7_notes 160 = .ok (.aload_n 0, 1) := by decide +kernel
theorem dX7_notes_161 : decode cX7_notes 161 = .ok (.getfield 105, 3) := by decide +kernel
theorem dX7_notes_164 : decode cX7_notes 164 = .ok (.if_icmp .ge 91, 3) := by decide +kernel
theorem dX7_notes_167 : decode cX7_notes 167 = .ok (.aload_n 0, 1) := by decide +kernel
theorem dX7_notes_168 : decode cX7_notes 168 = .ok (.getfield 34, 3) := by decide +kernel
theorem dX7_notes_171 : decode cX7_notes 171 = .ok (.iload_n 2, 1) := by decide +kernel
theorem dX7_notes_172 : decode cX7_notes 172 = .ok (.iaload, 1) := by decide +kernel
theorem dX7_notes_173 : decode cX7_notes 173 = .ok (.iconst 2, 1) := by decide +kernel
theorem dX7_notes_174 : decode cX7_notes 174 = .ok (.if_icmp .ne 75, 3) := by decide +kernel
theorem dX7_notes_177 : decode cX7_notes 177 = .ok (.bipush 60, 2) := by decide +kernel
theorem dX7_notes_179 : decode cX7_notes 179 = .ok (.iload_n 1, 1) := by decide +kernel
theorem dX7_notes_180 : decode cX7_notes 180 = .ok (.imul, 1) := by decide +kernel
theorem dX7_notes_181 : decode cX7_notes 181 = .ok (.bipush 20, 2) := by decide +kernel
theorem dX7_notes_183 : decode cX7_notes 183 = .ok (.aload_n 0, 1) := by decide +kernel
theorem dX7_notes_184 : decode cX7_notes 184 = .ok (.getfield 40, 3) := by decide +kernel
theorem dX7_notes_187 : decode cX7_notes 187 = .ok (.iload_n 2, 1) := by decide +kernel
theorem dX7_notes_188 : decode cX7_notes 188 = .ok (.iaload, 1) := by decide +kernel
theorem dX7_notes_189 : decode cX7_notes 189 = .ok (.imul, 1) := by decide +kernel
theorem dX7_notes_190 : decode cX7_notes 190 = .ok (.iadd, 1) := by decide +kernel
theorem dX7_notes_191 : decode cX7_notes 191 = .ok (.iconst 2, 1) := by decide +kernel
theorem dX7_notes_192 : decode cX7_notes 192 = .ok (.aload_n 0, 1) := by decide +kernel
theorem dX7_notes_193 : decode cX7_notes 193 = .ok (.getfield 43, 3) := by decide +kernel
theorem dX7_notes_196 : decode cX7_notes 196 = .ok (.iload_n 2, 1) := by decide +kernel
theorem dX7_notes_197 : decode cX7_notes 197 = .ok (.iaload, 1) := by decide +kernel
theorem dX7_notes_198 : decode cX7_notes 198 = .ok (.imul, 1) := by decide +kernel
theorem dX7_notes_199 : decode cX7_notes 199 = .ok (.iadd, 1) := by decide +kernel
theorem dX7_notes_200 : decode cX7_notes 200 = .ok (.istore_n 3, 1) := by decide +kernel
theorem dX7_notes_201 : decode cX7_notes 201 = .ok (.aload_n 0, 1) := by decide +kernel
theorem dX7_notes_202 : decode cX7_notes 202 = .ok (.getfield 79, 3) := by decide +kernel
theorem dX7_notes_205 : decode cX7_notes 205 = .ok (.iload_n 3, 1) := by decide +kernel
theorem dX7_notes_206 : decode cX7_notes 206 = .ok (.aload_n 0, 1) := by decide +kernel
theorem dX7_notes_207 : decode cX7_notes 207 = .ok (.getfield 46, 3) := by decide +kernel
theorem dX7_notes_210 : decode cX7_notes 210 = .ok (.iload_n 2, 1) := by decide +kernel
theorem dX7_notes_211 : decode cX7_notes 211 = .ok (.iaload, 1) := by decide +kernel
theorem dX7_notes_212 : decode cX7_notes 212 = .ok (.iadd, 1) := by decide +kernel
theorem dX7_notes_213 : decode cX7_notes 213 = .ok (.iload_n 2, 1) := by decide +kernel
theorem dX7_notes_214 : decode cX7_notes 214 = .ok (.iconst 1, 1) := by decide +kernel
theorem dX7_notes_215 : decode cX7_notes 215 = .ok (.iadd, 1) := by decide +kernel
theorem dX7_notes_216 : decode cX7_notes 216 = .ok (.iastore, 1) := by decide +kernel
theorem dX7_notes_217 : decode cX7_notes 217 = .ok (.aload_n 0, 1) := by decide +kernel
theorem dX7_notes_218 : decode cX7_notes 218 = .ok (.getfield 79, 3) := by decide +kernel
theorem dX7_notes_221 : decode cX7_notes 221 = .ok (.iload_n 3, 1) := by decide +kernel
theorem dX7_notes_222 : decode cX7_notes 222 = .ok (.iconst 1, 1) := by decide +kernel
theorem dX7_notes_223 : decode cX7_notes 223 = .ok (.iadd, 1) := by decide +kernel
theorem dX7_notes_224 : decode cX7_notes 224 = .ok (.aload_n 0, 1) := by decide +kernel
theorem dX7_notes_225 : decode cX7_notes 225 = .ok (.getfield 37, 3) := by decide +kernel
theorem dX7_notes_228 : decode cX7_notes 228 = .ok (.iload_n 2, 1) := by decide +kernel
theorem dX7_notes_229 : decode cX7_notes 229 = .ok (.iaload, 1) := by decide +kernel
theorem dX7_notes_230 : decode cX7_notes 230 = .ok (.iconst 2, 1) := by decide +kernel
theorem dX7_notes_231 : decode cX7_notes 231 = .ok (.if_icmp .ne 9, 3) := by decide +kernel
theorem dX7_notes_234 : decode cX7_notes 234 = .ok (.iload_n 2, 1) := by decide +kernel
theorem dX7_notes_235 : decode cX7_notes 235 = .ok (.iconst 1, 1) := by decide +kernel
theorem dX7_notes_236 : decode cX7_notes 236 = .ok (.iadd, 1) := by decide +kernel
theorem dX7_notes_237 : decode cX7_notes 237 = .ok (.goto 11, 3) := by decide +kernel
theorem dX7_notes_240 : decode cX7_notes 240 = .ok (.aload_n 0, 1) := by decide +kernel
theorem dX7_notes_241 : decode cX7_notes 241 = .ok (.getfield 79, 3) := by decide +kernel
theorem dX7_notes_244 : decode cX7_notes 244 = .ok (.iload_n 3, 1) := by decide +kernel
theorem dX7_notes_245 : decode cX7_notes 245 = .ok (.iconst 1, 1) := by decide +kernel
theorem dX7_notes_246 : decode cX7_notes 246 = .ok (.iadd, 1) := by decide +kernel
theorem dX7_notes_247 : decode cX7_notes 247 = .ok (.iaload, 1) := by decide +kernel
theorem dX7_notes_248 : decode cX7_notes 248 = .ok (.iastore, 1) := by decide +kernel
theorem dX7_notes_249 : decode cX7_notes 249 = .ok (.iinc 2 1, 3) := by decide +kernel
theorem dX7_notes_252 : decode cX7_notes 252 = .ok (.goto (-93), 3) := by decide +kernel
theorem dX7_notes_255 : decode cX7_notes 255 = .ok (.return_, 1) := by decide +kernel
theorem dX7_begins_0 : decode cX7_begins 0 = .ok (.iconst 0, 1) := by decide +kernel
theorem dX7_begins_1 : decode cX7_begins 1 = .ok (.istore_n 1, 1) := by decide +kernel
theorem dX7_begins_2 : decode cX7_begins 2 = .ok (.iload_n 1, 1) := by decide +kernel
theorem dX7_begins_3 : decode cX7_begins 3 = .ok (.bipush 14, 2) := by decide +kernel
theorem dX7_begins_5 : decode cX7_begins 5 = .ok (.if_icmp .ge 63, 3) := by decide +kernel
theorem dX7_begins_8 : decode cX7_begins 8 = .ok (.aload_n 0, 1) := by decide +kernel
theorem dX7_begins_9 : decode cX7_begins 9 = .ok (.getfield 34, 3) := by decide +kernel
theorem dX7_begins_12 : decode cX7_begins 12 = .ok (.iload_n 1, 1) := by decide +kernel
theorem dX7_begins_13 : decode cX7_begins 13 = .ok (.iconst 0, 1) := by decide +kernel
theorem dX7_begins_14 : decode cX7_begins 14 = .ok (.iastore, 1) := by decide +kernel
theorem dX7_begins_15 : decode cX7_begins 15 = .ok (.aload_n 0, 1) := by decide +kernel
theorem dX7_begins_16 : decode cX7_begins 16 = .ok (.getfield 37, 3) := by decide +kernel
theorem dX7_begins_19 : decode cX7_begins 19 = .ok (.iload_n 1, 1) := by decide +kernel
theorem dX7_begins_20 : decode cX7_begins 20 = .ok (.aload_n 0, 1) := by decide +kernel
theorem dX7_begins_21 : decode cX7_begins 21 = .ok (.getfield 16, 3) := by decide +kernel
theorem dX7_begins_24 : decode cX7_begins 24 = .ok (.iconst 3, 1) := by decide +kernel
theorem dX7_begins_25 : decode cX7_begins 25 = .ok (.iload_n 1, 1) := by decide +kernel
theorem dX7_begins_26 : decode cX7_begins 26 = .ok (.imul, 1) := by decide +kernel
theorem dX7_begins_27 : decode cX7_begins 27 = .ok (.iconst 2, 1) := by decide +kernel
theorem dX7_begins_28 : decode cX7_begins 28 = .ok (.iadd, 1) := by decide +kernel
theorem dX7_begins_29 : decode cX7_begins 29 = .ok (.iaload, 1) := by decide +kernel
theorem dX7_begins_30 : decode cX7_begins 30 = .ok (.iastore, 1) := by decide +kernel
theorem dX7_begins_31 : decode cX7_begins 31 = .ok (.aload_n 0, 1) := by decide +kernel
theorem dX7_begins_32 : decode cX7_begins 32 = .ok (.getfield 55, 3) := by decide +kernel
theorem dX7_begins_35 : decode cX7_begins 35 = .ok (.iload_n 1, 1) := by decide +kernel
theorem dX7_begins_36 : decode cX7_begins 36 = .ok (.bipush (-4), 2) := by decide +kernel
theorem dX7_begins_38 : decode cX7_begins 38 = .ok (.iastore, 1) := by decide +kernel
theorem dX7_begins_39 : decode cX7_begins 39 = .ok (.aload_n 0, 1) := by decide +kernel
theorem dX7_begins_40 : decode cX7_begins 40 = .ok (.getfield 58, 3) := by decide +kernel
theorem dX7_begins_43 : decode cX7_begins 43 = .ok (.iload_n 1, 1) := by decide +kernel
theorem dX7_begins_44 : decode cX7_begins 44 = .ok (.bipush (-4), 2) := by decide +kernel
theorem dX7_begins_46 : decode cX7_begins 46 = .ok (.iastore, 1) := by decide +kernel
theorem dX7_begins_47 : decode cX7_begins 47 = .ok (.aload_n 0, 1) := by decide +kernel
theorem dX7_begins_48 : decode cX7_begins 48 = .ok (.getfield 61, 3) := by decide +kernel
theorem dX7_begins_51 : decode cX7_begins 51 = .ok (.iload_n 1, 1) := by decide +kernel
theorem dX7_begins_52 : decode cX7_begins 52 = .ok (.bipush (-4), 2) := by decide +kernel
theorem dX7_begins_54 : decode cX7_begins 54 = .ok (.iastore, 1) := by decide +kernel
theorem dX7_begins_55 : decode cX7_begins 55 = .ok (.aload_n 0, 1) := by decide +kernel
theorem dX7_begins_56 : decode cX7_begins 56 = .ok (.getfield 64, 3) := by decide +kernel
theorem dX7_begins_59 : decode cX7_begins 59 = .ok (.iload_n 1, 1) := by decide +kernel
theorem dX7_begins_60 : decode cX7_begins 60 = .ok (.iconst 0, 1) := by decide +kernel
theorem dX7_begins_61 : decode cX7_begins 61 = .ok (.iastore, 1) := by decide +kernel
theorem dX7_begins_62 : decode cX7_begins 62 = .ok (.iinc 1 1, 3) := by decide +kernel
theorem dX7_begins_65 : decode cX7_begins 65 = .ok (.goto (-63), 3) := by decide +kernel
theorem dX7_begins_68 : decode cX7_begins 68 = .ok (.iconst 0, 1) := by decide +kernel
theorem dX7_begins_69 : decode cX7_begins 69 = .ok (.istore_n 1, 1) := by decide +kernel
theorem dX7_begins_70 : decode cX7_begins 70 = .ok (.iload_n 1, 1) := by decide +kernel
theorem dX7_begins_71 : decode cX7_begins 71 = .ok (.iconst 3, 1) := by decide +kernel
theorem dX7_begins_72 : decode cX7_begins 72 = .ok (.if_icmp .ge 28, 3) := by decide +kernel
theorem dX7_begins_75 : decode cX7_begins 75 = .ok (.aload_n 0, 1) := by decide +kernel
theorem dX7_begins_76 : decode cX7_begins 76 = .ok (.getfield 67, 3) := by decide +kernel
theorem dX7_begins_79 : decode cX7_begins 79 = .ok (.iload_n 1, 1) := by decide +kernel
theorem dX7_begins_80 : decode cX7_begins 80 = .ok (.aload_n 0, 1) := by decide +kernel
theorem dX7_begins_81 : decode cX7_begins 81 = .ok (.getfield 25, 3) := by decide +kernel
theorem dX7_begins_84 : decode cX7_begins 84 = .ok (.iload_n 1, 1) := by decide +kernel
theorem dX7_begins_85 : decode cX7_begins 85 = .ok (.iaload, 1) := by decide +kernel
theorem dX7_begins_86 : decode cX7_begins 86 = .ok (.iastore, 1) := by decide +kernel
theorem dX7_begins_87 : decode cX7_begins 87 = .ok (.aload_n 0, 1) := by decide +kernel
theorem dX7_begins_88 : decode cX7_begins 88 = .ok (.getfield 70, 3) := by decide +kernel
theorem dX7_begins_91 : decode cX7_begins 91 = .ok (.iload_n 1, 1) := by decide +kernel
theorem dX7_begins_92 : decode cX7_begins 92 = .ok (.iconst 0, 1) := by decide +kernel
theorem dX7_begins_93 : decode cX7_begins 93 = .ok (.iastore, 1) := by decide +kernel
theorem dX7_begins_94 : decode cX7_begins 94 = .ok (.iinc 1 1, 3) := by decide +kernel
theorem dX7_begins_97 : decode cX7_begins 97 = .ok (.goto (-27), 3) := by decide +kernel
theorem dX7_begins_100 : decode cX7_begins 100 = .ok (.aload_n 0, 1) := by decide +kernel
theorem dX7_begins_101 : decode cX7_begins 101 = .ok (.iconst 0, 1) := by decide +kernel
theorem dX7_begins_102 : decode cX7_begins 102 = .ok (.putfield 216, 3) := by decide +kernel
theorem dX7_begins_105 : decode cX7_begins 105 = .ok (.aload_n 0, 1) := by decide +kernel
theorem dX7_begins_106 : decode cX7_begins 106 = .ok (.iconst 0, 1) := by decide +kernel
theorem dX7_begins_107 : decode cX7_begins 107 = .ok (.putfield 197, 3) := by decide +kernel
theorem dX7_begins_110 : decode cX7_begins 110 = .ok (.aload_n 0, 1) := by decide +kernel
theorem dX7_begins_111 : decode cX7_begins 111 = .ok (.iconst 0, 1) := by decide +kernel
theorem dX7_begins_112 : decode cX7_begins 112 = .ok (.putfield 213, 3) := by decide +kernel
theorem dX7_begins_115 : decode cX7_begins 115 = .ok (.aload_n 0, 1) := by decide +kernel
theorem dX7_begins_116 : decode cX7_begins 116 = .ok (.iconst 0, 1) := by decide +kernel
theorem dX7_begins_117 : decode cX7_begins 117 = .ok (.putfield 210, 3) := by decide +kernel
theorem dX7_begins_120 : decode cX7_begins 120 = .ok (.return_, 1) := by decide +kernel
theorem dX7_runs_0 : decode cX7_runs 0 = .ok (.aload_n 0, 1) := by decide +kernel
theorem dX7_runs_1 : decode cX7_runs 1 = .ok (.invokevirtual 219, 3) := by decide +kernel
theorem dX7_runs_4 : decode cX7_runs 4 = .ok (.iconst 0, 1) := by decide +kernel
theorem dX7_runs_5 : decode cX7_runs 5 = .ok (.istore_n 1, 1) := by decide +kernel
theorem dX7_runs_6 : decode cX7_runs 6 = .ok (.iload_n 1, 1) := by decide +kernel
theorem dX7_runs_7 : decode cX7_runs 7 = .ok (.bipush 100, 2) := by decide +kernel
theorem dX7_runs_9 : decode cX7_runs 9 = .ok (.if_icmp .ge 201, 3) := by decide +kernel
theorem dX7_runs_12 : decode cX7_runs 12 = .ok (.iconst 0, 1) := by decide +kernel
theorem dX7_runs_13 : decode cX7_runs 13 = .ok (.istore_n 2, 1) := by decide +kernel
theorem dX7_runs_14 : decode cX7_runs 14 = .ok (.iload_n 2, 1) := by decide +kernel
theorem dX7_runs_15 : decode cX7_runs 15 = .ok (.aload_n 0, 1) := by decide +kernel
theorem dX7_runs_16 : decode cX7_runs 16 = .ok (.getfield 105, 3) := by decide +kernel
theorem dX7_runs_19 : decode cX7_runs 19 = .ok (.if_icmp .ge 45, 3) := by decide +kernel
theorem dX7_runs_22 : decode cX7_runs 22 = .ok (.aload_n 0, 1) := by decide +kernel
theorem dX7_runs_23 : decode cX7_runs 23 = .ok (.getfield 34, 3) := by decide +kernel
theorem dX7_runs_26 : decode cX7_runs 26 = .ok (.iload_n 2, 1) := by decide +kernel
theorem dX7_runs_27 : decode cX7_runs 27 = .ok (.aload_n 0, 1) := by decide +kernel
theorem dX7_runs_28 : decode cX7_runs 28 = .ok (.getfield 16, 3) := by decide +kernel
theorem dX7_runs_31 : decode cX7_runs 31 = .ok (.iconst 3, 1) := by decide +kernel
theorem dX7_runs_32 : decode cX7_runs 32 = .ok (.iload_n 2, 1) := by decide +kernel
theorem dX7_runs_33 : decode cX7_runs 33 = .ok (.imul, 1) := by decide +kernel
theorem dX7_runs_34 : decode cX7_runs 34 = .ok (.iaload, 1) := by decide +kernel
theorem dX7_runs_35 : decode cX7_runs 35 = .ok (.iload_n 1, 1) := by decide +kernel
theorem dX7_runs_36 : decode cX7_runs 36 = .ok (.if_icmp .ne 15, 3) := by decide +kernel
theorem dX7_runs_39 : decode cX7_runs 39 = .ok (.iload_n 2, 1) := by decide +kernel
theorem dX7_runs_40 : decode cX7_runs 40 = .ok (.aload_n 0, 1) := by decide +kernel
theorem dX7_runs_41 : decode cX7_runs 41 = .ok (.getfield 191, 3) := by decide +kernel
theorem dX7_runs_44 : decode cX7_runs 44 = .ok (.if_icmp .eq 7, 3) := by decide +kernel
theorem dX7_runs_47 : decode cX7_runs 47 = .ok (.iconst 1, 1) := by decide +kernel
theorem dX7_runs_48 : decode cX7_runs 48 = .ok (.goto 9, 3) := by decide +kernel
theorem dX7_runs_51 : decode cX7_runs 51 = .ok (.aload_n 0, 1) := by decide +kernel
theorem dX7_runs_52 : decode cX7_runs 52 = .ok (.getfield 34, 3) := by decide +kernel
theorem dX7_runs_55 : decode cX7_runs 55 = .ok (.iload_n 2, 1) := by decide +kernel
theorem dX7_runs_56 : decode cX7_runs 56 = .ok (.iaload, 1) := by decide +kernel
theorem dX7_runs_57 : decode cX7_runs 57 = .ok (.iastore, 1) := by decide +kernel
theorem dX7_runs_58 : decode cX7_runs 58 = .ok (.iinc 2 1, 3) := by decide +kernel
theorem dX7_runs_61 : decode cX7_runs 61 = .ok (.goto (-47), 3) := by decide +kernel
theorem dX7_runs_64 : decode cX7_runs 64 = .ok (.aload_n 0, 1) := by decide +kernel
theorem dX7_runs_65 : decode cX7_runs 65 = .ok (.getfield 185, 3) := by decide +kernel
theorem dX7_runs_68 : decode cX7_runs 68 = .ok (.iload_n 1, 1) := by decide +kernel
theorem dX7_runs_69 : decode cX7_runs 69 = .ok (.if_icmp .ne 12, 3) := by decide +kernel
theorem dX7_runs_72 : decode cX7_runs 72 = .ok (.iload_n 1, 1) := by decide +kernel
theorem dX7_runs_73 : decode cX7_runs 73 = .ok (.ifCond .le 8, 3) := by decide +kernel
theorem dX7_runs_76 : decode cX7_runs 76 = .ok (.aload_n 0, 1) := by decide +kernel
theorem dX7_runs_77 : decode cX7_runs 77 = .ok (.iload_n 1, 1) := by decide +kernel
theorem dX7_runs_78 : decode cX7_runs 78 = .ok (.invokevirtual 222, 3) := by decide +kernel
theorem dX7_runs_81 : decode cX7_runs 81 = .ok (.iconst 0, 1) := by decide +kernel
theorem dX7_runs_82 : decode cX7_runs 82 = .ok (.istore_n 2, 1) := by decide +kernel
theorem dX7_runs_83 : decode cX7_runs 83 = .ok (.iload_n 2, 1) := by decide +kernel
theorem dX7_runs_84 : decode cX7_runs 84 = .ok (.aload_n 0, 1) := by decide +kernel
theorem dX7_runs_85 : decode cX7_runs 85 = .ok (.getfield 97, 3) := by decide +kernel
theorem dX7_runs_88 : decode cX7_runs 88 = .ok (.if_icmp .ge 55, 3) := by decide +kernel
theorem dX7_runs_91 : decode cX7_runs 91 = .ok (.aload_n 0, 1) := by decide +kernel
theorem dX7_runs_92 : decode cX7_runs 92 = .ok (.iload_n 2, 1) := by decide +kernel
theorem dX7_runs_93 : decode cX7_runs 93 = .ok (.invokevirtual 226, 3) := by decide +kernel
theorem dX7_runs_96 : decode cX7_runs 96 = .ok (.ifCond .eq 41, 3) := by decide +kernel
theorem dX7_runs_99 : decode cX7_runs 99 = .ok (.iconst 1, 1) := by decide +kernel
theorem dX7_runs_100 : decode cX7_runs 100 = .ok (.istore_n 3, 1) := by decide +kernel
theorem dX7_runs_101 : decode cX7_runs 101 = .ok (.iconst 0, 1) := by decide +kernel
theorem dX7_runs_102 : decode cX7_runs 102 = .ok (.istore 4, 2) := by decide +kernel
theorem dX7_runs_104 : decode cX7_runs 104 = .ok (.iload 4, 2) := by decide +kernel
theorem dX7_runs_106 : decode cX7_runs 106 = .ok (.aload_n 0, 1) := by decide +kernel
theorem dX7_runs_107 : decode cX7_runs 107 = .ok (.getfield 31, 3) := by decide +kernel
theorem dX7_runs_110 : decode cX7_runs 110 = .ok (.iload_n 2, 1) := by decide +kernel
theorem dX7_runs_111 : decode cX7_runs 111 = .ok (.iaload, 1) := by decide +kernel
theorem dX7_runs_112 : decode cX7_runs 112 = .ok (.if_icmp .ge 20, 3) := by decide +kernel
theorem dX7_runs_115 : decode cX7_runs 115 = .ok (.iload_n 3, 1) := by decide +kernel
theorem dX7_runs_116 : decode cX7_runs 116 = .ok (.ifCond .eq 16, 3) := by decide +kernel
theorem dX7_runs_119 : decode cX7_runs 119 = .ok (.aload_n 0, 1) := by decide +kernel
theorem dX7_runs_120 : decode cX7_runs 120 = .ok (.iload_n 2, 1) := by decide +kernel
theorem dX7_runs_121 : decode cX7_runs 121 = .ok (.iload_n 1, 1) := by decide +kernel
theorem dX7_runs_122 : decode cX7_runs 122 = .ok (.invokevirtual 229, 3) := by decide +kernel
theorem dX7_runs_125 : decode cX7_runs 125 = .ok (.istore_n 3, 1) := by decide +kernel
theorem dX7_runs_126 : decode cX7_runs 126 = .ok (.iinc 4 1, 3) := by decide +kernel
theorem dX7_runs_129 : decode cX7_runs 129 = .ok (.goto (-25), 3) := by decide +kernel
theorem dX7_runs_132 : decode cX7_runs 132 = .ok (.aload_n 0, 1) := by decide +kernel
theorem dX7_runs_133 : decode cX7_runs 133 = .ok (.iload_n 2, 1) := by decide +kernel
theorem dX7_runs_134 : decode cX7_runs 134 = .ok (.invokevirtual 232, 3) := by decide +kernel
theorem dX7_runs_137 : decode cX7_runs 137 = .ok (.iinc 2 1, 3) := by decide +kernel
theorem dX7_runs_140 : decode cX7_runs 140 = .ok (.goto (-57), 3) := by decide +kernel
theorem dX7_runs_143 : decode cX7_runs 143 = .ok (.aload_n 0, 1) := by decide +kernel
theorem dX7_runs_144 : decode cX7_runs 144 = .ok (.iload_n 1, 1) := by decide +kernel
theorem dX7_runs_145 : decode cX7_runs 145 = .ok (.invokevirtual 235, 3) := by decide +kernel
theorem dX7_runs_148 : decode cX7_runs 148 = .ok (.iconst 0, 1) := by decide +kernel
theorem dX7_runs_149 : decode cX7_runs 149 = .ok (.istore_n 2, 1) := by decide +kernel
theorem dX7_runs_150 : decode cX7_runs 150 = .ok (.iload_n 2, 1) := by decide +kernel
theorem dX7_runs_151 : decode cX7_runs 151 = .ok (.aload_n 0, 1) := by decide +kernel
theorem dX7_runs_152 : decode cX7_runs 152 = .ok (.getfield 97, 3) := by decide +kernel
theorem dX7_runs_155 : decode cX7_runs 155 = .ok (.if_icmp .ge 23, 3) := by decide +kernel
theorem dX7_runs_158 : decode cX7_runs 158 = .ok (.aload_n 0, 1) := by decide +kernel
theorem dX7_runs_159 : decode cX7_runs 159 = .ok (.iload_n 2, 1) := by decide +kernel
theorem dX7_runs_160 : decode cX7_runs 160 = .ok (.invokevirtual 226, 3) := by decide +kernel
theorem dX7_runs_163 : decode cX7_runs 163 = .ok (.ifCond .eq 9, 3) := by decide +kernel
theorem dX7_runs_166 : decode cX7_runs 166 = .ok (.aload_n 0, 1) := by decide +kernel
theorem dX7_runs_167 : decode cX7_runs 167 = .ok (.iload_n 2, 1) := by decide +kernel
theorem dX7_runs_168 : decode cX7_runs 168 = .ok (.iload_n 1, 1) := by decide +kernel
theorem dX7_runs_169 : decode cX7_runs 169 = .ok (.invokevirtual 238, 3) := by decide +kernel
theorem dX7_runs_172 : decode cX7_runs 172 = .ok (.iinc 2 1, 3) := by decide +kernel
theorem dX7_runs_175 : decode cX7_runs 175 = .ok (.goto (-25), 3) := by decide +kernel
theorem dX7_runs_178 : decode cX7_runs 178 = .ok (.iconst 0, 1) := by decide +kernel
theorem dX7_runs_179 : decode cX7_runs 179 = .ok (.istore_n 2, 1) := by decide +kernel
theorem dX7_runs_180 : decode cX7_runs 180 = .ok (.iload_n 2, 1) := by decide +kernel
theorem dX7_runs_181 : decode cX7_runs 181 = .ok (.aload_n 0, 1) := by decide +kernel
theorem dX7_runs_182 : decode cX7_runs 182 = .ok (.getfield 97, 3) := by decide +kernel
theorem dX7_runs_185 : decode cX7_runs 185 = .ok (.if_icmp .ge 14, 3) := by decide +kernel
theorem dX7_runs_188 : decode cX7_runs 188 = .ok (.aload_n 0, 1) := by decide +kernel
theorem dX7_runs_189 : decode cX7_runs 189 = .ok (.iload_n 2, 1) := by decide +kernel
theorem dX7_runs_190 : decode cX7_runs 190 = .ok (.invokevirtual 242, 3) := by decide +kernel
theorem dX7_runs_193 : decode cX7_runs 193 = .ok (.iinc 2 1, 3) := by decide +kernel
theorem dX7_runs_196 : decode cX7_runs 196 = .ok (.goto (-16), 3) := by decide +kernel
theorem dX7_runs_199 : decode cX7_runs 199 = .ok (.aload_n 0, 1) := by decide +kernel
theorem dX7_runs_200 : decode cX7_runs 200 = .ok (.iload_n 1, 1) := by decide +kernel
theorem dX7_runs_201 : decode cX7_runs 201 = .ok (.invokevirtual 245, 3) := by decide +kernel
theorem dX7_runs_204 : decode cX7_runs 204 = .ok (.iinc 1 1, 3) := by decide +kernel
theorem dX7_runs_207 : decode cX7_runs 207 = .ok (.goto (-201), 3) := by decide +kernel
theorem dX7_runs_210 : decode cX7_runs 210 = .ok (.iconst 0, 1) := by decide +kernel
theorem dX7_runs_211 : decode cX7_runs 211 = .ok (.istore_n 1, 1) := by decide +kernel
theorem dX7_runs_212 : decode cX7_runs 212 = .ok (.iload_n 1, 1) := by decide +kernel
theorem dX7_runs_213 : decode cX7_runs 213 = .ok (.aload_n 0, 1) := by decide +kernel
theorem dX7_runs_214 : decode cX7_runs 214 = .ok (.getfield 105, 3) := by decide +kernel
theorem dX7_runs_217 : decode cX7_runs 217 = .ok (.if_icmp .ge 45, 3) := by decide +kernel
theorem dX7_runs_220 : decode cX7_runs 220 = .ok (.aload_n 0, 1) := by decide +kernel
theorem dX7_runs_221 : decode cX7_runs 221 = .ok (.getfield 64, 3) := by decide +kernel
theorem dX7_runs_224 : decode cX7_runs 224 = .ok (.iload_n 1, 1) := by decide +kernel
theorem dX7_runs_225 : decode cX7_runs 225 = .ok (.aload_n 0, 1) := by decide +kernel
theorem dX7_runs_226 : decode cX7_runs 226 = .ok (.getfield 34, 3) := by decide +kernel
theorem dX7_runs_229 : decode cX7_runs 229 = .ok (.iload_n 1, 1) := by decide +kernel
theorem dX7_runs_230 : decode cX7_runs 230 = .ok (.iaload, 1) := by decide +kernel
theorem dX7_runs_231 : decode cX7_runs 231 = .ok (.iconst 1, 1) := by decide +kernel
theorem dX7_runs_232 : decode cX7_runs 232 = .ok (.if_icmp .ne 17, 3) := by decide +kernel
theorem dX7_runs_235 : decode cX7_runs 235 = .ok (.bipush 100, 2) := by decide +kernel
theorem dX7_runs_237 : decode cX7_runs 237 = .ok (.aload_n 0, 1) := by decide +kernel
theorem dX7_runs_238 : decode cX7_runs 238 = .ok (.getfield 16, 3) := by decide +kernel
theorem dX7_runs_241 : decode cX7_runs 241 = .ok (.iconst 3, 1) := by decide +kernel
theorem dX7_runs_242 : decode cX7_runs 242 = .ok (.iload_n 1, 1) := by decide +kernel
theorem dX7_runs_243 : decode cX7_runs 243 = .ok (.imul, 1) := by decide +kernel
theorem dX7_runs_244 : decode cX7_runs 244 = .ok (.iaload, 1) := by decide +kernel
theorem dX7_runs_245 : decode cX7_runs 245 = .ok (.isub, 1) := by decide +kernel
theorem dX7_runs_246 : decode cX7_runs 246 = .ok (.goto 9, 3) := by decide +kernel
theorem dX7_runs_249 : decode cX7_runs 249 = .ok (.aload_n 0, 1) := by decide +kernel
theorem dX7_runs_250 : decode cX7_runs 250 = .ok (.getfield 64, 3) := by decide +kernel
theorem dX7_runs_253 : decode cX7_runs 253 = .ok (.iload_n 1, 1) := by decide +kernel
theorem dX7_runs_254 : decode cX7_runs 254 = .ok (.iaload, 1) := by decide +kernel
theorem dX7_runs_255 : decode cX7_runs 255 = .ok (.iastore, 1) := by decide +kernel
theorem dX7_runs_256 : decode cX7_runs 256 = .ok (.iinc 1 1, 3) := by decide +kernel
theorem dX7_runs_259 : decode cX7_runs 259 = .ok (.goto (-47), 3) := by decide +kernel
theorem dX7_runs_262 : decode cX7_runs 262 = .ok (.return_, 1) := by decide +kernel
theorem dX7_waits_0 : decode cX7_waits 0 = .ok (.iconst 0, 1) := by decide +kernel
theorem dX7_waits_1 : decode cX7_waits 1 = .ok (.istore_n 1, 1) := by decide +kernel
theorem dX7_waits_2 : decode cX7_waits 2 = .ok (.iconst 0, 1) := by decide +kernel
theorem dX7_waits_3 : decode cX7_waits 3 = .ok (.istore_n 2, 1) := by decide +kernel
theorem dX7_waits_4 : decode cX7_waits 4 = .ok (.iload_n 2, 1) := by decide +kernel
theorem dX7_waits_5 : decode cX7_waits 5 = .ok (.aload_n 0, 1) := by decide +kernel
theorem dX7_waits_6 : decode cX7_waits 6 = .ok (.getfield 105, 3) := by decide +kernel
theorem dX7_waits_9 : decode cX7_waits 9 = .ok (.if_icmp .ge 18, 3) := by decide +kernel
theorem dX7_waits_12 : decode cX7_waits 12 = .ok (.iload_n 1, 1) := by decide +kernel
theorem dX7_waits_13 : decode cX7_waits 13 = .ok (.aload_n 0, 1) := by decide +kernel
theorem dX7_waits_14 : decode cX7_waits 14 = .ok (.getfield 64, 3) := by decide +kernel
theorem dX7_waits_17 : decode cX7_waits 17 = .ok (.iload_n 2, 1) := by decide +kernel
theorem dX7_waits_18 : decode cX7_waits 18 = .ok (.iaload, 1) := by decide +kernel
theorem dX7_waits_19 : decode cX7_waits 19 = .ok (.iadd, 1) := by decide +kernel
theorem dX7_waits_20 : decode cX7_waits 20 = .ok (.istore_n 1, 1) := by decide +kernel
theorem dX7_waits_21 : decode cX7_waits 21 = .ok (.iinc 2 1, 3) := by decide +kernel
theorem dX7_waits_24 : decode cX7_waits 24 = .ok (.goto (-20), 3) := by decide +kernel
theorem dX7_waits_27 : decode cX7_waits 27 = .ok (.iload_n 1, 1) := by decide +kernel
theorem dX7_waits_28 : decode cX7_waits 28 = .ok (.ireturn, 1) := by decide +kernel
theorem dX7_last_0 : decode cX7_last 0 = .ok (.iconst 0, 1) := by decide +kernel
theorem dX7_last_1 : decode cX7_last 1 = .ok (.istore_n 1, 1) := by decide +kernel
theorem dX7_last_2 : decode cX7_last 2 = .ok (.iconst 0, 1) := by decide +kernel
theorem dX7_last_3 : decode cX7_last 3 = .ok (.istore_n 2, 1) := by decide +kernel
theorem dX7_last_4 : decode cX7_last 4 = .ok (.iload_n 2, 1) := by decide +kernel
theorem dX7_last_5 : decode cX7_last 5 = .ok (.aload_n 0, 1) := by decide +kernel
theorem dX7_last_6 : decode cX7_last 6 = .ok (.getfield 105, 3) := by decide +kernel
theorem dX7_last_9 : decode cX7_last 9 = .ok (.if_icmp .ge 41, 3) := by decide +kernel
theorem dX7_last_12 : decode cX7_last 12 = .ok (.aload_n 0, 1) := by decide +kernel
theorem dX7_last_13 : decode cX7_last 13 = .ok (.getfield 61, 3) := by decide +kernel
theorem dX7_last_16 : decode cX7_last 16 = .ok (.iload_n 2, 1) := by decide +kernel
theorem dX7_last_17 : decode cX7_last 17 = .ok (.iaload, 1) := by decide +kernel
theorem dX7_last_18 : decode cX7_last 18 = .ok (.ifCond .ge 8, 3) := by decide +kernel
theorem dX7_last_21 : decode cX7_last 21 = .ok (.bipush 100, 2) := by decide +kernel
theorem dX7_last_23 : decode cX7_last 23 = .ok (.goto 9, 3) := by decide +kernel
theorem dX7_last_26 : decode cX7_last 26 = .ok (.aload_n 0, 1) := by decide +kernel
theorem dX7_last_27 : decode cX7_last 27 = .ok (.getfield 61, 3) := by decide +kernel
theorem dX7_last_30 : decode cX7_last 30 = .ok (.iload_n 2, 1) := by decide +kernel
theorem dX7_last_31 : decode cX7_last 31 = .ok (.iaload, 1) := by decide +kernel
theorem dX7_last_32 : decode cX7_last 32 = .ok (.istore_n 3, 1) := by decide +kernel
theorem dX7_last_33 : decode cX7_last 33 = .ok (.iload_n 3, 1) := by decide +kernel
theorem dX7_last_34 : decode cX7_last 34 = .ok (.iload_n 1, 1) := by decide +kernel
theorem dX7_last_35 : decode cX7_last 35 = .ok (.if_icmp .le 7, 3) := by decide +kernel
theorem dX7_last_38 : decode cX7_last 38 = .ok (.iload_n 3, 1) := by decide +kernel
theorem dX7_last_39 : decode cX7_last 39 = .ok (.goto 4, 3) := by decide +kernel
theorem dX7_last_42 : decode cX7_last 42 = .ok (.iload_n 1, 1) := by decide +kernel
theorem dX7_last_43 : decode cX7_last 43 = .ok (.istore_n 1, 1) := by decide +kernel
theorem dX7_last_44 : decode cX7_last 44 = .ok (.iinc 2 1, 3) := by decide +kernel
theorem dX7_last_47 : decode cX7_last 47 = .ok (.goto (-43), 3) := by decide +kernel
theorem dX7_last_50 : decode cX7_last 50 = .ok (.iload_n 1, 1) := by decide +kernel
theorem dX7_last_51 : decode cX7_last 51 = .ok (.ireturn, 1) := by decide +kernel
theorem dX7_throughBy_0 : decode cX7_throughBy 0 = .ok (.iconst 0, 1) := by decide +kernel
theorem dX7_throughBy_1 : decode cX7_throughBy 1 = .ok (.istore_n 2, 1) := by decide +kernel
theorem dX7_throughBy_2 : decode cX7_throughBy 2 = .ok (.iconst 0, 1) := by decide +kernel
theorem dX7_throughBy_3 : decode cX7_throughBy 3 = .ok (.istore_n 3, 1) := by decide +kernel
theorem dX7_throughBy_4 : decode cX7_throughBy 4 = .ok (.iload_n 3, 1) := by decide +kernel
theorem dX7_throughBy_5 : decode cX7_throughBy 5 = .ok (.aload_n 0, 1) := by decide +kernel
theorem dX7_throughBy_6 : decode cX7_throughBy 6 = .ok (.getfield 105, 3) := by decide +kernel
theorem dX7_throughBy_9 : decode cX7_throughBy 9 = .ok (.if_icmp .ge 36, 3) := by decide +kernel
theorem dX7_throughBy_12 : decode cX7_throughBy 12 = .ok (.iload_n 2, 1) := by decide +kernel
theorem dX7_throughBy_13 : decode cX7_throughBy 13 = .ok (.aload_n 0, 1) := by decide +kernel
theorem dX7_throughBy_14 : decode cX7_throughBy 14 = .ok (.getfield 61, 3) := by decide +kernel
theorem dX7_throughBy_17 : decode cX7_throughBy 17 = .ok (.iload_n 3, 1) := by decide +kernel
theorem dX7_throughBy_18 : decode cX7_throughBy 18 = .ok (.iaload, 1) := by decide +kernel
theorem dX7_throughBy_19 : decode cX7_throughBy 19 = .ok (.ifCond .lt 17, 3) := by decide +kernel
theorem dX7_throughBy_22 : decode cX7_throughBy 22 = .ok (.aload_n 0, 1) := by decide +kernel
theorem dX7_throughBy_23 : decode cX7_throughBy 23 = .ok (.getfield 61, 3) := by decide +kernel
theorem dX7_throughBy_26 : decode cX7_throughBy 26 = .ok (.iload_n 3, 1) := by decide +kernel
theorem dX7_throughBy_27 : decode cX7_throughBy 27 = .ok (.iaload, 1) := by decide +kernel
theorem dX7_throughBy_28 : decode cX7_throughBy 28 = .ok (.iload_n 1, 1) := by decide +kernel
theorem dX7_throughBy_29 : decode cX7_throughBy 29 = .ok (.if_icmp .gt 7, 3) := by decide +kernel
theorem dX7_throughBy_32 : decode cX7_throughBy 32 = .ok (.iconst 1, 1) := by decide +kernel
theorem dX7_throughBy_33 : decode cX7_throughBy 33 = .ok (.goto 4, 3) := by decide +kernel
theorem dX7_throughBy_36 : decode cX7_throughBy 36 = .ok (.iconst 0, 1) := by decide +kernel
theorem dX7_throughBy_37 : decode cX7_throughBy 37 = .ok (.iadd, 1) := by decide +kernel
theorem dX7_throughBy_38 : decode cX7_throughBy 38 = .ok (.istore_n 2, 1) := by decide +kernel
theorem dX7_throughBy_39 : decode cX7_throughBy 39 = .ok (.iinc 3 1, 3) := by decide +kernel
theorem dX7_throughBy_42 : decode cX7_throughBy 42 = .ok (.goto (-38), 3) := by decide +kernel
theorem dX7_throughBy_45 : decode cX7_throughBy 45 = .ok (.iload_n 2, 1) := by decide +kernel
theorem dX7_throughBy_46 : decode cX7_throughBy 46 = .ok (.ireturn, 1) := by decide +kernel
theorem dX7_fate_0 : decode cX7_fate 0 = .ok (.aload_n 0, 1) := by decide +kernel
theorem dX7_fate_1 : decode cX7_fate 1 = .ok (.iload_n 1, 1) := by decide +kernel
theorem dX7_fate_2 : decode cX7_fate 2 = .ok (.invokevirtual 145, 3) := by decide +kernel
theorem dX7_fate_5 : decode cX7_fate 5 = .ok (.ifCond .eq 15, 3) := by decide +kernel
theorem dX7_fate_8 : decode cX7_fate 8 = .ok (.iload_n 2, 1) := by decide +kernel
theorem dX7_fate_9 : decode cX7_fate 9 = .ok (.i2l, 1) := by decide +kernel
theorem dX7_fate_10 : decode cX7_fate 10 = .ok (.lconst 0, 1) := by decide +kernel
theorem dX7_fate_11 : decode cX7_fate 11 = .ok (.ldc2_w 139, 3) := by decide +kernel
theorem dX7_fate_14 : decode cX7_fate 14 = .ok (.invokestatic 101, 3) := by decide +kernel
theorem dX7_fate_17 : decode cX7_fate 17 = .ok (.ifCond .ne 5, 3) := by decide +kernel
theorem dX7_fate_20 : decode cX7_fate 20 = .ok (.iconst (-1), 1) := by decide +kernel
theorem dX7_fate_21 : decode cX7_fate 21 = .ok (.ireturn, 1) := by decide +kernel
theorem dX7_fate_22 : decode cX7_fate 22 = .ok (.aload_n 0, 1) := by decide +kernel
theorem dX7_fate_23 : decode cX7_fate 23 = .ok (.invokevirtual 248, 3) := by decide +kernel
theorem dX7_fate_26 : decode cX7_fate 26 = .ok (.aload_n 0, 1) := by decide +kernel
theorem dX7_fate_27 : decode cX7_fate 27 = .ok (.invokevirtual 251, 3) := by decide +kernel
theorem dX7_fate_30 : decode cX7_fate 30 = .ok (.iload_n 2, 1) := by decide +kernel
theorem dX7_fate_31 : decode cX7_fate 31 = .ok (.ifCond .ne 12, 3) := by decide +kernel
theorem dX7_fate_34 : decode cX7_fate 34 = .ok (.aload_n 0, 1) := by decide +kernel
theorem dX7_fate_35 : decode cX7_fate 35 = .ok (.getfield 55, 3) := by decide +kernel
theorem dX7_fate_38 : decode cX7_fate 38 = .ok (.iload_n 1, 1) := by decide +kernel
theorem dX7_fate_39 : decode cX7_fate 39 = .ok (.iaload, 1) := by decide +kernel
theorem dX7_fate_40 : decode cX7_fate 40 = .ok (.goto 53, 3) := by decide +kernel
theorem dX7_fate_43 : decode cX7_fate 43 = .ok (.iload_n 2, 1) := by decide +kernel
theorem dX7_fate_44 : decode cX7_fate 44 = .ok (.iconst 1, 1) := by decide +kernel
theorem dX7_fate_45 : decode cX7_fate 45 = .ok (.if_icmp .ne 12, 3) := by decide +kernel
theorem dX7_fate_48 : decode cX7_fate 48 = .ok (.aload_n 0, 1) := by decide +kernel
theorem dX7_fate_49 : decode cX7_fate 49 = .ok (.getfield 58, 3) := by decide +kernel
theorem dX7_fate_52 : decode cX7_fate 52 = .ok (.iload_n 1, 1) := by decide +kernel
theorem dX7_fate_53 : decode cX7_fate 53 = .ok (.iaload, 1) := by decide +kernel
theorem dX7_fate_54 : decode cX7_fate 54 = .ok (.goto 39, 3) := by decide +kernel
theorem dX7_fate_57 : decode cX7_fate 57 = .ok (.iload_n 2, 1) := by decide +kernel
theorem dX7_fate_58 : decode cX7_fate 58 = .ok (.iconst 2, 1) := by decide +kernel
theorem dX7_fate_59 : decode cX7_fate 59 = .ok (.if_icmp .ne 12, 3) := by decide +kernel
theorem dX7_fate_62 : decode cX7_fate 62 = .ok (.aload_n 0, 1) := by decide +kernel
theorem dX7_fate_63 : decode cX7_fate 63 = .ok (.getfield 61, 3) := by decide +kernel
theorem dX7_fate_66 : decode cX7_fate 66 = .ok (.iload_n 1, 1) := by decide +kernel
theorem dX7_fate_67 : decode cX7_fate 67 = .ok (.iaload, 1) := by decide +kernel
theorem dX7_fate_68 : decode cX7_fate 68 = .ok (.goto 25, 3) := by decide +kernel
theorem dX7_fate_71 : decode cX7_fate 71 = .ok (.iload_n 2, 1) := by decide +kernel
theorem dX7_fate_72 : decode cX7_fate 72 = .ok (.iconst 3, 1) := by decide +kernel
theorem dX7_fate_73 : decode cX7_fate 73 = .ok (.if_icmp .ne 12, 3) := by decide +kernel
theorem dX7_fate_76 : decode cX7_fate 76 = .ok (.aload_n 0, 1) := by decide +kernel
theorem dX7_fate_77 : decode cX7_fate 77 = .ok (.getfield 64, 3) := by decide +kernel
theorem dX7_fate_80 : decode cX7_fate 80 = .ok (.iload_n 1, 1) := by decide +kernel
theorem dX7_fate_81 : decode cX7_fate 81 = .ok (.iaload, 1) := by decide +kernel
theorem dX7_fate_82 : decode cX7_fate 82 = .ok (.goto 11, 3) := by decide +kernel
theorem dX7_fate_85 : decode cX7_fate 85 = .ok (.aload_n 0, 1) := by decide +kernel
theorem dX7_fate_86 : decode cX7_fate 86 = .ok (.getfield 216, 3) := by decide +kernel
theorem dX7_fate_89 : decode cX7_fate 89 = .ok (.iload_n 1, 1) := by decide +kernel
theorem dX7_fate_90 : decode cX7_fate 90 = .ok (.ishr, 1) := by decide +kernel
theorem dX7_fate_91 : decode cX7_fate 91 = .ok (.iconst 1, 1) := by decide +kernel
theorem dX7_fate_92 : decode cX7_fate 92 = .ok (.iand, 1) := by decide +kernel
theorem dX7_fate_93 : decode cX7_fate 93 = .ok (.ireturn, 1) := by decide +kernel
theorem dX7_at_0 : decode cX7_at 0 = .ok (.iload_n 1, 1) := by decide +kernel
theorem dX7_at_1 : decode cX7_at 1 = .ok (.i2l, 1) := by decide +kernel
theorem dX7_at_2 : decode cX7_at 2 = .ok (.lconst 0, 1) := by decide +kernel
theorem dX7_at_3 : decode cX7_at 3 = .ok (.ldc2_w 129, 3) := by decide +kernel
theorem dX7_at_6 : decode cX7_at 6 = .ok (.invokestatic 101, 3) := by decide +kernel
theorem dX7_at_9 : decode cX7_at 9 = .ok (.ifCond .eq 15, 3) := by decide +kernel
theorem dX7_at_12 : decode cX7_at 12 = .ok (.iload_n 2, 1) := by decide +kernel
theorem dX7_at_13 : decode cX7_at 13 = .ok (.i2l, 1) := by decide +kernel
theorem dX7_at_14 : decode cX7_at 14 = .ok (.lconst 0, 1) := by decide +kernel
theorem dX7_at_15 : decode cX7_at 15 = .ok (.ldc2_w 139, 3) := by decide +kernel
theorem dX7_at_18 : decode cX7_at 18 = .ok (.invokestatic 101, 3) := by decide +kernel
theorem dX7_at_21 : decode cX7_at 21 = .ok (.ifCond .ne 5, 3) := by decide +kernel
theorem dX7_at_24 : decode cX7_at 24 = .ok (.iconst (-1), 1) := by decide +kernel
theorem dX7_at_25 : decode cX7_at 25 = .ok (.ireturn, 1) := by decide +kernel
theorem dX7_at_26 : decode cX7_at 26 = .ok (.aload_n 0, 1) := by decide +kernel
theorem dX7_at_27 : decode cX7_at 27 = .ok (.invokevirtual 248, 3) := by decide +kernel
theorem dX7_at_30 : decode cX7_at 30 = .ok (.aload_n 0, 1) := by decide +kernel
theorem dX7_at_31 : decode cX7_at 31 = .ok (.invokevirtual 251, 3) := by decide +kernel
theorem dX7_at_34 : decode cX7_at 34 = .ok (.iload_n 2, 1) := by decide +kernel
theorem dX7_at_35 : decode cX7_at 35 = .ok (.iconst 4, 1) := by decide +kernel
theorem dX7_at_36 : decode cX7_at 36 = .ok (.if_icmp .ge 16, 3) := by decide +kernel
theorem dX7_at_39 : decode cX7_at 39 = .ok (.aload_n 0, 1) := by decide +kernel
theorem dX7_at_40 : decode cX7_at 40 = .ok (.getfield 73, 3) := by decide +kernel
theorem dX7_at_43 : decode cX7_at 43 = .ok (.iconst 4, 1) := by decide +kernel
theorem dX7_at_44 : decode cX7_at 44 = .ok (.iload_n 1, 1) := by decide +kernel
theorem dX7_at_45 : decode cX7_at 45 = .ok (.imul, 1) := by decide +kernel
theorem dX7_at_46 : decode cX7_at 46 = .ok (.iload_n 2, 1) := by decide +kernel
theorem dX7_at_47 : decode cX7_at 47 = .ok (.iadd, 1) := by decide +kernel
theorem dX7_at_48 : decode cX7_at 48 = .ok (.iaload, 1) := by decide +kernel
theorem dX7_at_49 : decode cX7_at 49 = .ok (.goto 9, 3) := by decide +kernel
theorem dX7_at_52 : decode cX7_at 52 = .ok (.aload_n 0, 1) := by decide +kernel
theorem dX7_at_53 : decode cX7_at 53 = .ok (.getfield 76, 3) := by decide +kernel
theorem dX7_at_56 : decode cX7_at 56 = .ok (.iload_n 1, 1) := by decide +kernel
theorem dX7_at_57 : decode cX7_at 57 = .ok (.iaload, 1) := by decide +kernel
theorem dX7_at_58 : decode cX7_at 58 = .ok (.ireturn, 1) := by decide +kernel
theorem dX7_on_0 : decode cX7_on 0 = .ok (.iload_n 1, 1) := by decide +kernel
theorem dX7_on_1 : decode cX7_on 1 = .ok (.i2l, 1) := by decide +kernel
theorem dX7_on_2 : decode cX7_on 2 = .ok (.lconst 0, 1) := by decide +kernel
theorem dX7_on_3 : decode cX7_on 3 = .ok (.ldc2_w 129, 3) := by decide +kernel
theorem dX7_on_6 : decode cX7_on 6 = .ok (.invokestatic 101, 3) := by decide +kernel
theorem dX7_on_9 : decode cX7_on 9 = .ok (.ifCond .eq 42, 3) := by decide +kernel
theorem dX7_on_12 : decode cX7_on 12 = .ok (.aload_n 0, 1) := by decide +kernel
theorem dX7_on_13 : decode cX7_on 13 = .ok (.iload_n 2, 1) := by decide +kernel
theorem dX7_on_14 : decode cX7_on 14 = .ok (.invokevirtual 118, 3) := by decide +kernel
theorem dX7_on_17 : decode cX7_on 17 = .ok (.ifCond .eq 34, 3) := by decide +kernel
theorem dX7_on_20 : decode cX7_on 20 = .ok (.iload_n 3, 1) := by decide +kernel
theorem dX7_on_21 : decode cX7_on 21 = .ok (.i2l, 1) := by decide +kernel
theorem dX7_on_22 : decode cX7_on 22 = .ok (.lconst 0, 1) := by decide +kernel
theorem dX7_on_23 : decode cX7_on 23 = .ok (.aload_n 0, 1) := by decide +kernel
theorem dX7_on_24 : decode cX7_on 24 = .ok (.getfield 13, 3) := by decide +kernel
theorem dX7_on_27 : decode cX7_on 27 = .ok (.iconst 3, 1) := by decide +kernel
theorem dX7_on_28 : decode cX7_on 28 = .ok (.iload_n 2, 1) := by decide +kernel
theorem dX7_on_29 : decode cX7_on 29 = .ok (.imul, 1) := by decide +kernel
theorem dX7_on_30 : decode cX7_on 30 = .ok (.iaload, 1) := by decide +kernel
theorem dX7_on_31 : decode cX7_on 31 = .ok (.iconst 1, 1) := by decide +kernel
theorem dX7_on_32 : decode cX7_on 32 = .ok (.isub, 1) := by decide +kernel
theorem dX7_on_33 : decode cX7_on 33 = .ok (.i2l, 1) := by decide +kernel
theorem dX7_on_34 : decode cX7_on 34 = .ok (.invokestatic 101, 3) := by decide +kernel
theorem dX7_on_37 : decode cX7_on 37 = .ok (.ifCond .eq 14, 3) := by decide +kernel
theorem dX7_on_40 : decode cX7_on 40 = .ok (.iload 4, 2) := by decide +kernel
theorem dX7_on_42 : decode cX7_on 42 = .ok (.i2l, 1) := by decide +kernel
theorem dX7_on_43 : decode cX7_on 43 = .ok (.lconst 0, 1) := by decide +kernel
theorem dX7_on_44 : decode cX7_on 44 = .ok (.lconst 1, 1) := by decide +kernel
theorem dX7_on_45 : decode cX7_on 45 = .ok (.invokestatic 101, 3) := by decide +kernel
theorem dX7_on_48 : decode cX7_on 48 = .ok (.ifCond .ne 5, 3) := by decide +kernel
theorem dX7_on_51 : decode cX7_on 51 = .ok (.iconst (-1), 1) := by decide +kernel
theorem dX7_on_52 : decode cX7_on 52 = .ok (.ireturn, 1) := by decide +kernel
theorem dX7_on_53 : decode cX7_on 53 = .ok (.aload_n 0, 1) := by decide +kernel
theorem dX7_on_54 : decode cX7_on 54 = .ok (.invokevirtual 248, 3) := by decide +kernel
theorem dX7_on_57 : decode cX7_on 57 = .ok (.aload_n 0, 1) := by decide +kernel
theorem dX7_on_58 : decode cX7_on 58 = .ok (.invokevirtual 251, 3) := by decide +kernel
theorem dX7_on_61 : decode cX7_on 61 = .ok (.aload_n 0, 1) := by decide +kernel
theorem dX7_on_62 : decode cX7_on 62 = .ok (.getfield 79, 3) := by decide +kernel
theorem dX7_on_65 : decode cX7_on 65 = .ok (.bipush 60, 2) := by decide +kernel
theorem dX7_on_67 : decode cX7_on 67 = .ok (.iload_n 1, 1) := by decide +kernel
theorem dX7_on_68 : decode cX7_on 68 = .ok (.imul, 1) := by decide +kernel
theorem dX7_on_69 : decode cX7_on 69 = .ok (.bipush 20, 2) := by decide +kernel
theorem dX7_on_71 : decode cX7_on 71 = .ok (.iload_n 2, 1) := by decide +kernel
theorem dX7_on_72 : decode cX7_on 72 = .ok (.imul, 1) := by decide +kernel
theorem dX7_on_73 : decode cX7_on 73 = .ok (.iadd, 1) := by decide +kernel
theorem dX7_on_74 : decode cX7_on 74 = .ok (.iconst 2, 1) := by decide +kernel
theorem dX7_on_75 : decode cX7_on 75 = .ok (.iload_n 3, 1) := by decide +kernel
theorem dX7_on_76 : decode cX7_on 76 = .ok (.imul, 1) := by decide +kernel
theorem dX7_on_77 : decode cX7_on 77 = .ok (.iadd, 1) := by decide +kernel
theorem dX7_on_78 : decode cX7_on 78 = .ok (.iload 4, 2) := by decide +kernel
theorem dX7_on_80 : decode cX7_on 80 = .ok (.iadd, 1) := by decide +kernel
theorem dX7_on_81 : decode cX7_on 81 = .ok (.iaload, 1) := by decide +kernel
theorem dX7_on_82 : decode cX7_on 82 = .ok (.istore 5, 2) := by decide +kernel
theorem dX7_on_84 : decode cX7_on 84 = .ok (.iload 5, 2) := by decide +kernel
theorem dX7_on_86 : decode cX7_on 86 = .ok (.ifCond .ne 8, 3) := by decide +kernel
theorem dX7_on_89 : decode cX7_on 89 = .ok (.bipush (-4), 2) := by decide +kernel
theorem dX7_on_91 : decode cX7_on 91 = .ok (.goto 7, 3) := by decide +kernel
theorem dX7_on_94 : decode cX7_on 94 = .ok (.iload 5, 2) := by decide +kernel
theorem dX7_on_96 : decode cX7_on 96 = .ok (.iconst 1, 1) := by decide +kernel
theorem dX7_on_97 : decode cX7_on 97 = .ok (.isub, 1) := by decide +kernel
theorem dX7_on_98 : decode cX7_on 98 = .ok (.ireturn, 1) := by decide +kernel
theorem dX7_all_0 : decode cX7_all 0 = .ok (.iload_n 1, 1) := by decide +kernel
theorem dX7_all_1 : decode cX7_all 1 = .ok (.i2l, 1) := by decide +kernel
theorem dX7_all_2 : decode cX7_all 2 = .ok (.lconst 0, 1) := by decide +kernel
theorem dX7_all_3 : decode cX7_all 3 = .ok (.ldc2_w 254, 3) := by decide +kernel
theorem dX7_all_6 : decode cX7_all 6 = .ok (.invokestatic 101, 3) := by decide +kernel
theorem dX7_all_9 : decode cX7_all 9 = .ok (.ifCond .ne 5, 3) := by decide +kernel
theorem dX7_all_12 : decode cX7_all 12 = .ok (.iconst (-1), 1) := by decide +kernel
theorem dX7_all_13 : decode cX7_all 13 = .ok (.ireturn, 1) := by decide +kernel
theorem dX7_all_14 : decode cX7_all 14 = .ok (.aload_n 0, 1) := by decide +kernel
theorem dX7_all_15 : decode cX7_all 15 = .ok (.invokevirtual 248, 3) := by decide +kernel
theorem dX7_all_18 : decode cX7_all 18 = .ok (.aload_n 0, 1) := by decide +kernel
theorem dX7_all_19 : decode cX7_all 19 = .ok (.invokevirtual 251, 3) := by decide +kernel
theorem dX7_all_22 : decode cX7_all 22 = .ok (.iload_n 1, 1) := by decide +kernel
theorem dX7_all_23 : decode cX7_all 23 = .ok (.tableswitch 69 0 5 #[37, 42, 47, 52, 57, 62], 37) := by decide +kernel
theorem dX7_all_60 : decode cX7_all 60 = .ok (.aload_n 0, 1) := by decide +kernel
theorem dX7_all_61 : decode cX7_all 61 = .ok (.invokevirtual 256, 3) := by decide +kernel
theorem dX7_all_64 : decode cX7_all 64 = .ok (.ireturn, 1) := by decide +kernel
theorem dX7_all_65 : decode cX7_all 65 = .ok (.aload_n 0, 1) := by decide +kernel
theorem dX7_all_66 : decode cX7_all 66 = .ok (.getfield 210, 3) := by decide +kernel
theorem dX7_all_69 : decode cX7_all 69 = .ok (.ireturn, 1) := by decide +kernel
theorem dX7_all_70 : decode cX7_all 70 = .ok (.aload_n 0, 1) := by decide +kernel
theorem dX7_all_71 : decode cX7_all 71 = .ok (.getfield 197, 3) := by decide +kernel
theorem dX7_all_74 : decode cX7_all 74 = .ok (.ireturn, 1) := by decide +kernel
theorem dX7_all_75 : decode cX7_all 75 = .ok (.aload_n 0, 1) := by decide +kernel
theorem dX7_all_76 : decode cX7_all 76 = .ok (.getfield 213, 3) := by decide +kernel
theorem dX7_all_79 : decode cX7_all 79 = .ok (.ireturn, 1) := by decide +kernel
theorem dX7_all_80 : decode cX7_all 80 = .ok (.aload_n 0, 1) := by decide +kernel
theorem dX7_all_81 : decode cX7_all 81 = .ok (.getfield 216, 3) := by decide +kernel
theorem dX7_all_84 : decode cX7_all 84 = .ok (.ireturn, 1) := by decide +kernel
theorem dX7_all_85 : decode cX7_all 85 = .ok (.aload_n 0, 1) := by decide +kernel
theorem dX7_all_86 : decode cX7_all 86 = .ok (.bipush 100, 2) := by decide +kernel
theorem dX7_all_88 : decode cX7_all 88 = .ok (.invokevirtual 259, 3) := by decide +kernel
theorem dX7_all_91 : decode cX7_all 91 = .ok (.ireturn, 1) := by decide +kernel
theorem dX7_all_92 : decode cX7_all 92 = .ok (.aload_n 0, 1) := by decide +kernel
theorem dX7_all_93 : decode cX7_all 93 = .ok (.invokevirtual 262, 3) := by decide +kernel
theorem dX7_all_96 : decode cX7_all 96 = .ok (.ireturn, 1) := by decide +kernel
theorem dX7_lays_0 : decode cX7_lays 0 = .ok (.iload_n 0, 1) := by decide +kernel
theorem dX7_lays_1 : decode cX7_lays 1 = .ok (.istore_n 2, 1) := by decide +kernel
theorem dX7_lays_2 : decode cX7_lays 2 = .ok (.iconst 0, 1) := by decide +kernel
theorem dX7_lays_3 : decode cX7_lays 3 = .ok (.istore_n 3, 1) := by decide +kernel
theorem dX7_lays_4 : decode cX7_lays 4 = .ok (.iload_n 3, 1) := by decide +kernel
theorem dX7_lays_5 : decode cX7_lays 5 = .ok (.iconst 3, 1) := by decide +kernel
theorem dX7_lays_6 : decode cX7_lays 6 = .ok (.if_icmp .ge 19, 3) := by decide +kernel
theorem dX7_lays_9 : decode cX7_lays 9 = .ok (.aload_n 1, 1) := by decide +kernel
theorem dX7_lays_10 : decode cX7_lays 10 = .ok (.iload_n 3, 1) := by decide +kernel
theorem dX7_lays_11 : decode cX7_lays 11 = .ok (.iload_n 2, 1) := by decide +kernel
theorem dX7_lays_12 : decode cX7_lays 12 = .ok (.iconst 3, 1) := by decide +kernel
theorem dX7_lays_13 : decode cX7_lays 13 = .ok (.irem, 1) := by decide +kernel
theorem dX7_lays_14 : decode cX7_lays 14 = .ok (.iastore, 1) := by decide +kernel
theorem dX7_lays_15 : decode cX7_lays 15 = .ok (.iload_n 2, 1) := by decide +kernel
theorem dX7_lays_16 : decode cX7_lays 16 = .ok (.iconst 3, 1) := by decide +kernel
theorem dX7_lays_17 : decode cX7_lays 17 = .ok (.idiv, 1) := by decide +kernel
theorem dX7_lays_18 : decode cX7_lays 18 = .ok (.istore_n 2, 1) := by decide +kernel
theorem dX7_lays_19 : decode cX7_lays 19 = .ok (.iinc 3 1, 3) := by decide +kernel
theorem dX7_lays_22 : decode cX7_lays 22 = .ok (.goto (-18), 3) := by decide +kernel
theorem dX7_lays_25 : decode cX7_lays 25 = .ok (.return_, 1) := by decide +kernel
theorem dX7_waysMany_0 : decode cX7_waysMany 0 = .ok (.aload_n 0, 1) := by decide +kernel
theorem dX7_waysMany_1 : decode cX7_waysMany 1 = .ok (.getfield 97, 3) := by decide +kernel
theorem dX7_waysMany_4 : decode cX7_waysMany 4 = .ok (.ifCond .ne 7, 3) := by decide +kernel
theorem dX7_waysMany_7 : decode cX7_waysMany 7 = .ok (.iconst 1, 1) := by decide +kernel
theorem dX7_waysMany_8 : decode cX7_waysMany 8 = .ok (.goto 30, 3) := by decide +kernel
theorem dX7_waysMany_11 : decode cX7_waysMany 11 = .ok (.aload_n 0, 1) := by decide +kernel
theorem dX7_waysMany_12 : decode cX7_waysMany 12 = .ok (.getfield 97, 3) := by decide +kernel
theorem dX7_waysMany_15 : decode cX7_waysMany 15 = .ok (.iconst 1, 1) := by decide +kernel
theorem dX7_waysMany_16 : decode cX7_waysMany 16 = .ok (.if_icmp .ne 7, 3) := by decide +kernel
theorem dX7_waysMany_19 : decode cX7_waysMany 19 = .ok (.iconst 3, 1) := by decide +kernel
theorem dX7_waysMany_20 : decode cX7_waysMany 20 = .ok (.goto 18, 3) := by decide +kernel
theorem dX7_waysMany_23 : decode cX7_waysMany 23 = .ok (.aload_n 0, 1) := by decide +kernel
theorem dX7_waysMany_24 : decode cX7_waysMany 24 = .ok (.getfield 97, 3) := by decide +kernel
theorem dX7_waysMany_27 : decode cX7_waysMany 27 = .ok (.iconst 2, 1) := by decide +kernel
theorem dX7_waysMany_28 : decode cX7_waysMany 28 = .ok (.if_icmp .ne 8, 3) := by decide +kernel
theorem dX7_waysMany_31 : decode cX7_waysMany 31 = .ok (.bipush 9, 2) := by decide +kernel
theorem dX7_waysMany_33 : decode cX7_waysMany 33 = .ok (.goto 5, 3) := by decide +kernel
theorem dX7_waysMany_36 : decode cX7_waysMany 36 = .ok (.bipush 27, 2) := by decide +kernel
theorem dX7_waysMany_38 : decode cX7_waysMany 38 = .ok (.ireturn, 1) := by decide +kernel
theorem dX7_ways_0 : decode cX7_ways 0 = .ok (.iload_n 1, 1) := by decide +kernel
theorem dX7_ways_1 : decode cX7_ways 1 = .ok (.i2l, 1) := by decide +kernel
theorem dX7_ways_2 : decode cX7_ways 2 = .ok (.lconst 0, 1) := by decide +kernel
theorem dX7_ways_3 : decode cX7_ways 3 = .ok (.lconst 1, 1) := by decide +kernel
theorem dX7_ways_4 : decode cX7_ways 4 = .ok (.invokestatic 101, 3) := by decide +kernel
theorem dX7_ways_7 : decode cX7_ways 7 = .ok (.ifCond .ne 5, 3) := by decide +kernel
theorem dX7_ways_10 : decode cX7_ways 10 = .ok (.iconst (-1), 1) := by decide +kernel
theorem dX7_ways_11 : decode cX7_ways 11 = .ok (.ireturn, 1) := by decide +kernel
theorem dX7_ways_12 : decode cX7_ways 12 = .ok (.aload_n 0, 1) := by decide +kernel
theorem dX7_ways_13 : decode cX7_ways 13 = .ok (.getfield 97, 3) := by decide +kernel
theorem dX7_ways_16 : decode cX7_ways 16 = .ok (.ifCond .ne 6, 3) := by decide +kernel
theorem dX7_ways_19 : decode cX7_ways 19 = .ok (.bipush (-2), 2) := by decide +kernel
theorem dX7_ways_21 : decode cX7_ways 21 = .ok (.ireturn, 1) := by decide +kernel
theorem dX7_ways_22 : decode cX7_ways 22 = .ok (.bipush (-4), 2) := by decide +kernel
theorem dX7_ways_24 : decode cX7_ways 24 = .ok (.istore_n 2, 1) := by decide +kernel
theorem dX7_ways_25 : decode cX7_ways 25 = .ok (.iconst 0, 1) := by decide +kernel
theorem dX7_ways_26 : decode cX7_ways 26 = .ok (.istore_n 3, 1) := by decide +kernel
theorem dX7_ways_27 : decode cX7_ways 27 = .ok (.iconst 0, 1) := by decide +kernel
theorem dX7_ways_28 : decode cX7_ways 28 = .ok (.istore 4, 2) := by decide +kernel
theorem dX7_ways_30 : decode cX7_ways 30 = .ok (.iload 4, 2) := by decide +kernel
theorem dX7_ways_32 : decode cX7_ways 32 = .ok (.aload_n 0, 1) := by decide +kernel
theorem dX7_ways_33 : decode cX7_ways 33 = .ok (.invokevirtual 265, 3) := by decide +kernel
theorem dX7_ways_36 : decode cX7_ways 36 = .ok (.if_icmp .ge 78, 3) := by decide +kernel
theorem dX7_ways_39 : decode cX7_ways 39 = .ok (.aload_n 0, 1) := by decide +kernel
theorem dX7_ways_40 : decode cX7_ways 40 = .ok (.invokevirtual 248, 3) := by decide +kernel
theorem dX7_ways_43 : decode cX7_ways 43 = .ok (.aload_n 0, 1) := by decide +kernel
theorem dX7_ways_44 : decode cX7_ways 44 = .ok (.iconst 0, 1) := by decide +kernel
theorem dX7_ways_45 : decode cX7_ways 45 = .ok (.putfield 185, 3) := by decide +kernel
theorem dX7_ways_48 : decode cX7_ways 48 = .ok (.iload 4, 2) := by decide +kernel
theorem dX7_ways_50 : decode cX7_ways 50 = .ok (.aload_n 0, 1) := by decide +kernel
theorem dX7_ways_51 : decode cX7_ways 51 = .ok (.getfield 25, 3) := by decide +kernel
theorem dX7_ways_54 : decode cX7_ways 54 = .ok (.invokestatic 268, 3) := by decide +kernel
theorem dX7_ways_57 : decode cX7_ways 57 = .ok (.aload_n 0, 1) := by decide +kernel
theorem dX7_ways_58 : decode cX7_ways 58 = .ok (.invokevirtual 251, 3) := by decide +kernel
theorem dX7_ways_61 : decode cX7_ways 61 = .ok (.aload_n 0, 1) := by decide +kernel
theorem dX7_ways_62 : decode cX7_ways 62 = .ok (.invokevirtual 256, 3) := by decide +kernel
theorem dX7_ways_65 : decode cX7_ways 65 = .ok (.istore 5, 2) := by decide +kernel
theorem dX7_ways_67 : decode cX7_ways 67 = .ok (.iload_n 2, 1) := by decide +kernel
theorem dX7_ways_68 : decode cX7_ways 68 = .ok (.ifCond .lt 9, 3) := by decide +kernel
theorem dX7_ways_71 : decode cX7_ways 71 = .ok (.iload 5, 2) := by decide +kernel
theorem dX7_ways_73 : decode cX7_ways 73 = .ok (.iload_n 3, 1) := by decide +kernel
theorem dX7_ways_74 : decode cX7_ways 74 = .ok (.if_icmp .ge 7, 3) := by decide +kernel
theorem dX7_ways_77 : decode cX7_ways 77 = .ok (.iconst 1, 1) := by decide +kernel
theorem dX7_ways_78 : decode cX7_ways 78 = .ok (.goto 4, 3) := by decide +kernel
theorem dX7_ways_81 : decode cX7_ways 81 = .ok (.iconst 0, 1) := by decide +kernel
theorem dX7_ways_82 : decode cX7_ways 82 = .ok (.istore 6, 2) := by decide +kernel
theorem dX7_ways_84 : decode cX7_ways 84 = .ok (.iload 6, 2) := by decide +kernel
theorem dX7_ways_86 : decode cX7_ways 86 = .ok (.ifCond .eq 8, 3) := by decide +kernel
theorem dX7_ways_89 : decode cX7_ways 89 = .ok (.iload 4, 2) := by decide +kernel
theorem dX7_ways_91 : decode cX7_ways 91 = .ok (.goto 4, 3) := by decide +kernel
theorem dX7_ways_94 : decode cX7_ways 94 = .ok (.iload_n 2, 1) := by decide +kernel
theorem dX7_ways_95 : decode cX7_ways 95 = .ok (.istore_n 2, 1) := by decide +kernel
theorem dX7_ways_96 : decode cX7_ways 96 = .ok (.iload 6, 2) := by decide +kernel
theorem dX7_ways_98 : decode cX7_ways 98 = .ok (.ifCond .eq 8, 3) := by decide +kernel
theorem dX7_ways_101 : decode cX7_ways 101 = .ok (.iload 5, 2) := by decide +kernel
theorem dX7_ways_103 : decode cX7_ways 103 = .ok (.goto 4, 3) := by decide +kernel
theorem dX7_ways_106 : decode cX7_ways 106 = .ok (.iload_n 3, 1) := by decide +kernel
theorem dX7_ways_107 : decode cX7_ways 107 = .ok (.istore_n 3, 1) := by decide +kernel
theorem dX7_ways_108 : decode cX7_ways 108 = .ok (.iinc 4 1, 3) := by decide +kernel
theorem dX7_ways_111 : decode cX7_ways 111 = .ok (.goto (-81), 3) := by decide +kernel
theorem dX7_ways_114 : decode cX7_ways 114 = .ok (.iload_n 1, 1) := by decide +kernel
theorem dX7_ways_115 : decode cX7_ways 115 = .ok (.ifCond .ne 7, 3) := by decide +kernel
theorem dX7_ways_118 : decode cX7_ways 118 = .ok (.iload_n 2, 1) := by decide +kernel
theorem dX7_ways_119 : decode cX7_ways 119 = .ok (.goto 4, 3) := by decide +kernel
theorem dX7_ways_122 : decode cX7_ways 122 = .ok (.iload_n 3, 1) := by decide +kernel
theorem dX7_ways_123 : decode cX7_ways 123 = .ok (.ireturn, 1) := by decide +kernel
theorem dX7_best_0 : decode cX7_best 0 = .ok (.iload_n 1, 1) := by decide +kernel
theorem dX7_best_1 : decode cX7_best 1 = .ok (.i2l, 1) := by decide +kernel
theorem dX7_best_2 : decode cX7_best 2 = .ok (.lconst 1, 1) := by decide +kernel
theorem dX7_best_3 : decode cX7_best 3 = .ok (.ldc2_w 129, 3) := by decide +kernel
theorem dX7_best_6 : decode cX7_best 6 = .ok (.invokestatic 101, 3) := by decide +kernel
theorem dX7_best_9 : decode cX7_best 9 = .ok (.ifCond .eq 15, 3) := by decide +kernel
theorem dX7_best_12 : decode cX7_best 12 = .ok (.iload_n 2, 1) := by decide +kernel
theorem dX7_best_13 : decode cX7_best 13 = .ok (.i2l, 1) := by decide +kernel
theorem dX7_best_14 : decode cX7_best 14 = .ok (.lconst 0, 1) := by decide +kernel
theorem dX7_best_15 : decode cX7_best 15 = .ok (.ldc2_w 112, 3) := by decide +kernel
theorem dX7_best_18 : decode cX7_best 18 = .ok (.invokestatic 101, 3) := by decide +kernel
theorem dX7_best_21 : decode cX7_best 21 = .ok (.ifCond .ne 5, 3) := by decide +kernel
theorem dX7_best_24 : decode cX7_best 24 = .ok (.iconst (-1), 1) := by decide +kernel
theorem dX7_best_25 : decode cX7_best 25 = .ok (.ireturn, 1) := by decide +kernel
theorem dX7_best_26 : decode cX7_best 26 = .ok (.aload_n 0, 1) := by decide +kernel
theorem dX7_best_27 : decode cX7_best 27 = .ok (.getfield 97, 3) := by decide +kernel
theorem dX7_best_30 : decode cX7_best 30 = .ok (.ifCond .ne 6, 3) := by decide +kernel
theorem dX7_best_33 : decode cX7_best 33 = .ok (.bipush (-2), 2) := by decide +kernel
theorem dX7_best_35 : decode cX7_best 35 = .ok (.ireturn, 1) := by decide +kernel
theorem dX7_best_36 : decode cX7_best 36 = .ok (.aload_n 0, 1) := by decide +kernel
theorem dX7_best_37 : decode cX7_best 37 = .ok (.invokevirtual 265, 3) := by decide +kernel
theorem dX7_best_40 : decode cX7_best 40 = .ok (.istore_n 3, 1) := by decide +kernel
theorem dX7_best_41 : decode cX7_best 41 = .ok (.bipush (-4), 2) := by decide +kernel
theorem dX7_best_43 : decode cX7_best 43 = .ok (.istore 4, 2) := by decide +kernel
theorem dX7_best_45 : decode cX7_best 45 = .ok (.iconst 0, 1) := by decide +kernel
theorem dX7_best_46 : decode cX7_best 46 = .ok (.istore 5, 2) := by decide +kernel
theorem dX7_best_48 : decode cX7_best 48 = .ok (.iconst 0, 1) := by decide +kernel
theorem dX7_best_49 : decode cX7_best 49 = .ok (.istore 6, 2) := by decide +kernel
theorem dX7_best_51 : decode cX7_best 51 = .ok (.iload 6, 2) := by decide +kernel
theorem dX7_best_53 : decode cX7_best 53 = .ok (.iload_n 3, 1) := by decide +kernel
theorem dX7_best_54 : decode cX7_best 54 = .ok (.iload_n 3, 1) := by decide +kernel
theorem dX7_best_55 : decode cX7_best 55 = .ok (.imul, 1) := by decide +kernel
theorem dX7_best_56 : decode cX7_best 56 = .ok (.if_icmp .ge 97, 3) := by decide +kernel
theorem dX7_best_59 : decode cX7_best 59 = .ok (.aload_n 0, 1) := by decide +kernel
theorem dX7_best_60 : decode cX7_best 60 = .ok (.invokevirtual 248, 3) := by decide +kernel
theorem dX7_best_63 : decode cX7_best 63 = .ok (.aload_n 0, 1) := by decide +kernel
theorem dX7_best_64 : decode cX7_best 64 = .ok (.iload_n 1, 1) := by decide +kernel
theorem dX7_best_65 : decode cX7_best 65 = .ok (.putfield 185, 3) := by decide +kernel
theorem dX7_best_68 : decode cX7_best 68 = .ok (.iload 6, 2) := by decide +kernel
theorem dX7_best_70 : decode cX7_best 70 = .ok (.iload_n 3, 1) := by decide +kernel
theorem dX7_best_71 : decode cX7_best 71 = .ok (.idiv, 1) := by decide +kernel
theorem dX7_best_72 : decode cX7_best 72 = .ok (.aload_n 0, 1) := by decide +kernel
theorem dX7_best_73 : decode cX7_best 73 = .ok (.getfield 25, 3) := by decide +kernel
theorem dX7_best_76 : decode cX7_best 76 = .ok (.invokestatic 268, 3) := by decide +kernel
theorem dX7_best_79 : decode cX7_best 79 = .ok (.iload 6, 2) := by decide +kernel
theorem dX7_best_81 : decode cX7_best 81 = .ok (.iload_n 3, 1) := by decide +kernel
theorem dX7_best_82 : decode cX7_best 82 = .ok (.irem, 1) := by decide +kernel
theorem dX7_best_83 : decode cX7_best 83 = .ok (.aload_n 0, 1) := by decide +kernel
theorem dX7_best_84 : decode cX7_best 84 = .ok (.getfield 28, 3) := by decide +kernel
theorem dX7_best_87 : decode cX7_best 87 = .ok (.invokestatic 268, 3) := by decide +kernel
theorem dX7_best_90 : decode cX7_best 90 = .ok (.aload_n 0, 1) := by decide +kernel
theorem dX7_best_91 : decode cX7_best 91 = .ok (.invokevirtual 251, 3) := by decide +kernel
theorem dX7_best_94 : decode cX7_best 94 = .ok (.aload_n 0, 1) := by decide +kernel
theorem dX7_best_95 : decode cX7_best 95 = .ok (.invokevirtual 256, 3) := by decide +kernel
theorem dX7_best_98 : decode cX7_best 98 = .ok (.istore 7, 2) := by decide +kernel
theorem dX7_best_100 : decode cX7_best 100 = .ok (.iload 4, 2) := by decide +kernel
theorem dX7_best_102 : decode cX7_best 102 = .ok (.ifCond .lt 10, 3) := by decide +kernel
theorem dX7_best_105 : decode cX7_best 105 = .ok (.iload 7, 2) := by decide +kernel
theorem dX7_best_107 : decode cX7_best 107 = .ok (.iload 5, 2) := by decide +kernel
theorem dX7_best_109 : decode cX7_best 109 = .ok (.if_icmp .ge 7, 3) := by decide +kernel
theorem dX7_best_112 : decode cX7_best 112 = .ok (.iconst 1, 1) := by decide +kernel
theorem dX7_best_113 : decode cX7_best 113 = .ok (.goto 4, 3) := by decide +kernel
theorem dX7_best_116 : decode cX7_best 116 = .ok (.iconst 0, 1) := by decide +kernel
theorem dX7_best_117 : decode cX7_best 117 = .ok (.istore 8, 2) := by decide +kernel
theorem dX7_best_119 : decode cX7_best 119 = .ok (.iload 8, 2) := by decide +kernel
theorem dX7_best_121 : decode cX7_best 121 = .ok (.ifCond .eq 8, 3) := by decide +kernel
theorem dX7_best_124 : decode cX7_best 124 = .ok (.iload 6, 2) := by decide +kernel
theorem dX7_best_126 : decode cX7_best 126 = .ok (.goto 5, 3) := by decide +kernel
theorem dX7_best_129 : decode cX7_best 129 = .ok (.iload 4, 2) := by decide +kernel
theorem dX7_best_131 : decode cX7_best 131 = .ok (.istore 4, 2) := by decide +kernel
theorem dX7_best_133 : decode cX7_best 133 = .ok (.iload 8, 2) := by decide +kernel
theorem dX7_best_135 : decode cX7_best 135 = .ok (.ifCond .eq 8, 3) := by decide +kernel
theorem dX7_best_138 : decode cX7_best 138 = .ok (.iload 7, 2) := by decide +kernel
theorem dX7_best_140 : decode cX7_best 140 = .ok (.goto 5, 3) := by decide +kernel
theorem dX7_best_143 : decode cX7_best 143 = .ok (.iload 5, 2) := by decide +kernel
theorem dX7_best_145 : decode cX7_best 145 = .ok (.istore 5, 2) := by decide +kernel
theorem dX7_best_147 : decode cX7_best 147 = .ok (.iinc 6 1, 3) := by decide +kernel
theorem dX7_best_150 : decode cX7_best 150 = .ok (.goto (-99), 3) := by decide +kernel
theorem dX7_best_153 : decode cX7_best 153 = .ok (.iload_n 2, 1) := by decide +kernel
theorem dX7_best_154 : decode cX7_best 154 = .ok (.ifCond .ne 10, 3) := by decide +kernel
theorem dX7_best_157 : decode cX7_best 157 = .ok (.iload 4, 2) := by decide +kernel
theorem dX7_best_159 : decode cX7_best 159 = .ok (.iload_n 3, 1) := by decide +kernel
theorem dX7_best_160 : decode cX7_best 160 = .ok (.idiv, 1) := by decide +kernel
theorem dX7_best_161 : decode cX7_best 161 = .ok (.goto 17, 3) := by decide +kernel
theorem dX7_best_164 : decode cX7_best 164 = .ok (.iload_n 2, 1) := by decide +kernel
theorem dX7_best_165 : decode cX7_best 165 = .ok (.iconst 1, 1) := by decide +kernel
theorem dX7_best_166 : decode cX7_best 166 = .ok (.if_icmp .ne 10, 3) := by decide +kernel
theorem dX7_best_169 : decode cX7_best 169 = .ok (.iload 4, 2) := by decide +kernel
theorem dX7_best_171 : decode cX7_best 171 = .ok (.iload_n 3, 1) := by decide +kernel
theorem dX7_best_172 : decode cX7_best 172 = .ok (.irem, 1) := by decide +kernel
theorem dX7_best_173 : decode cX7_best 173 = .ok (.goto 5, 3) := by decide +kernel
theorem dX7_best_176 : decode cX7_best 176 = .ok (.iload 5, 2) := by decide +kernel
theorem dX7_best_178 : decode cX7_best 178 = .ok (.ireturn, 1) := by decide +kernel
theorem dX7_thrift_0 : decode cX7_thrift 0 = .ok (.iload_n 1, 1) := by decide +kernel
theorem dX7_thrift_1 : decode cX7_thrift 1 = .ok (.i2l, 1) := by decide +kernel
theorem dX7_thrift_2 : decode cX7_thrift 2 = .ok (.lconst 0, 1) := by decide +kernel
theorem dX7_thrift_3 : decode cX7_thrift 3 = .ok (.ldc2_w 129, 3) := by decide +kernel
theorem dX7_thrift_6 : decode cX7_thrift 6 = .ok (.invokestatic 101, 3) := by decide +kernel
theorem dX7_thrift_9 : decode cX7_thrift 9 = .ok (.ifCond .eq 13, 3) := by decide +kernel
theorem dX7_thrift_12 : decode cX7_thrift 12 = .ok (.iload_n 2, 1) := by decide +kernel
theorem dX7_thrift_13 : decode cX7_thrift 13 = .ok (.i2l, 1) := by decide +kernel
theorem dX7_thrift_14 : decode cX7_thrift 14 = .ok (.lconst 0, 1) := by decide +kernel
theorem dX7_thrift_15 : decode cX7_thrift 15 = .ok (.lconst 1, 1) := by decide +kernel
theorem dX7_thrift_16 : decode cX7_thrift 16 = .ok (.invokestatic 101, 3) := by decide +kernel
theorem dX7_thrift_19 : decode cX7_thrift 19 = .ok (.ifCond .ne 5, 3) := by decide +kernel
theorem dX7_thrift_22 : decode cX7_thrift 22 = .ok (.iconst (-1), 1) := by decide +kernel
theorem dX7_thrift_23 : decode cX7_thrift 23 = .ok (.ireturn, 1) := by decide +kernel
theorem dX7_thrift_24 : decode cX7_thrift 24 = .ok (.aload_n 0, 1) := by decide +kernel
theorem dX7_thrift_25 : decode cX7_thrift 25 = .ok (.getfield 97, 3) := by decide +kernel
theorem dX7_thrift_28 : decode cX7_thrift 28 = .ok (.ifCond .ne 6, 3) := by decide +kernel
theorem dX7_thrift_31 : decode cX7_thrift 31 = .ok (.bipush (-2), 2) := by decide +kernel
theorem dX7_thrift_33 : decode cX7_thrift 33 = .ok (.ireturn, 1) := by decide +kernel
theorem dX7_thrift_34 : decode cX7_thrift 34 = .ok (.bipush (-4), 2) := by decide +kernel
theorem dX7_thrift_36 : decode cX7_thrift 36 = .ok (.istore_n 3, 1) := by decide +kernel
theorem dX7_thrift_37 : decode cX7_thrift 37 = .ok (.iconst 0, 1) := by decide +kernel
theorem dX7_thrift_38 : decode cX7_thrift 38 = .ok (.istore 4, 2) := by decide +kernel
theorem dX7_thrift_40 : decode cX7_thrift 40 = .ok (.iconst 0, 1) := by decide +kernel
theorem dX7_thrift_41 : decode cX7_thrift 41 = .ok (.istore 5, 2) := by decide +kernel
theorem dX7_thrift_43 : decode cX7_thrift 43 = .ok (.iload 5, 2) := by decide +kernel
theorem dX7_thrift_45 : decode cX7_thrift 45 = .ok (.iconst 1, 1) := by decide +kernel
theorem dX7_thrift_46 : decode cX7_thrift 46 = .ok (.aload_n 0, 1) := by decide +kernel
theorem dX7_thrift_47 : decode cX7_thrift 47 = .ok (.getfield 97, 3) := by decide +kernel
theorem dX7_thrift_50 : decode cX7_thrift 50 = .ok (.ishl, 1) := by decide +kernel
theorem dX7_thrift_51 : decode cX7_thrift 51 = .ok (.if_icmp .ge 104, 3) := by decide +kernel
theorem dX7_thrift_54 : decode cX7_thrift 54 = .ok (.aload_n 0, 1) := by decide +kernel
theorem dX7_thrift_55 : decode cX7_thrift 55 = .ok (.invokevirtual 248, 3) := by decide +kernel
theorem dX7_thrift_58 : decode cX7_thrift 58 = .ok (.iconst 0, 1) := by decide +kernel
theorem dX7_thrift_59 : decode cX7_thrift 59 = .ok (.istore 6, 2) := by decide +kernel
theorem dX7_thrift_61 : decode cX7_thrift 61 = .ok (.iload 6, 2) := by decide +kernel
theorem dX7_thrift_63 : decode cX7_thrift 63 = .ok (.iconst 3, 1) := by decide +kernel
theorem dX7_thrift_64 : decode cX7_thrift 64 = .ok (.if_icmp .ge 25, 3) := by decide +kernel
theorem dX7_thrift_67 : decode cX7_thrift 67 = .ok (.aload_n 0, 1) := by decide +kernel
theorem dX7_thrift_68 : decode cX7_thrift 68 = .ok (.getfield 31, 3) := by decide +kernel
theorem dX7_thrift_71 : decode cX7_thrift 71 = .ok (.iload 6, 2) := by decide +kernel
theorem dX7_thrift_73 : decode cX7_thrift 73 = .ok (.iload 5, 2) := by decide +kernel
theorem dX7_thrift_75 : decode cX7_thrift 75 = .ok (.iload 6, 2) := by decide +kernel
theorem dX7_thrift_77 : decode cX7_thrift 77 = .ok (.ishr, 1) := by decide +kernel
theorem dX7_thrift_78 : decode cX7_thrift 78 = .ok (.iconst 1, 1) := by decide +kernel
theorem dX7_thrift_79 : decode cX7_thrift 79 = .ok (.iand, 1) := by decide +kernel
theorem dX7_thrift_80 : decode cX7_thrift 80 = .ok (.iconst 1, 1) := by decide +kernel
theorem dX7_thrift_81 : decode cX7_thrift 81 = .ok (.iadd, 1) := by decide +kernel
theorem dX7_thrift_82 : decode cX7_thrift 82 = .ok (.iastore, 1) := by decide +kernel
theorem dX7_thrift_83 : decode cX7_thrift 83 = .ok (.iinc 6 1, 3) := by decide +kernel
theorem dX7_thrift_86 : decode cX7_thrift 86 = .ok (.goto (-25), 3) := by decide +kernel
theorem dX7_thrift_89 : decode cX7_thrift 89 = .ok (.aload_n 0, 1) := by decide +kernel
theorem dX7_thrift_90 : decode cX7_thrift 90 = .ok (.invokevirtual 251, 3) := by decide +kernel
theorem dX7_thrift_93 : decode cX7_thrift 93 = .ok (.aload_n 0, 1) := by decide +kernel
theorem dX7_thrift_94 : decode cX7_thrift 94 = .ok (.invokevirtual 262, 3) := by decide +kernel
theorem dX7_thrift_97 : decode cX7_thrift 97 = .ok (.iload_n 1, 1) := by decide +kernel
theorem dX7_thrift_98 : decode cX7_thrift 98 = .ok (.if_icmp .gt 20, 3) := by decide +kernel
theorem dX7_thrift_101 : decode cX7_thrift 101 = .ok (.iload_n 3, 1) := by decide +kernel
theorem dX7_thrift_102 : decode cX7_thrift 102 = .ok (.ifCond .lt 12, 3) := by decide +kernel
theorem dX7_thrift_105 : decode cX7_thrift 105 = .ok (.aload_n 0, 1) := by decide +kernel
theorem dX7_thrift_106 : decode cX7_thrift 106 = .ok (.getfield 210, 3) := by decide +kernel
theorem dX7_thrift_109 : decode cX7_thrift 109 = .ok (.iload 4, 2) := by decide +kernel
theorem dX7_thrift_111 : decode cX7_thrift 111 = .ok (.if_icmp .ge 7, 3) := by decide +kernel
theorem dX7_thrift_114 : decode cX7_thrift 114 = .ok (.iconst 1, 1) := by decide +kernel
theorem dX7_thrift_115 : decode cX7_thrift 115 = .ok (.goto 4, 3) := by decide +kernel
theorem dX7_thrift_118 : decode cX7_thrift 118 = .ok (.iconst 0, 1) := by decide +kernel
theorem dX7_thrift_119 : decode cX7_thrift 119 = .ok (.istore 6, 2) := by decide +kernel
theorem dX7_thrift_121 : decode cX7_thrift 121 = .ok (.iload 6, 2) := by decide +kernel
theorem dX7_thrift_123 : decode cX7_thrift 123 = .ok (.ifCond .eq 8, 3) := by decide +kernel
theorem dX7_thrift_126 : decode cX7_thrift 126 = .ok (.iload 5, 2) := by decide +kernel
theorem dX7_thrift_128 : decode cX7_thrift 128 = .ok (.goto 4, 3) := by decide +kernel
theorem dX7_thrift_131 : decode cX7_thrift 131 = .ok (.iload_n 3, 1) := by decide +kernel
theorem dX7_thrift_132 : decode cX7_thrift 132 = .ok (.istore_n 3, 1) := by decide +kernel
theorem dX7_thrift_133 : decode cX7_thrift 133 = .ok (.iload 6, 2) := by decide +kernel
theorem dX7_thrift_135 : decode cX7_thrift 135 = .ok (.ifCond .eq 10, 3) := by decide +kernel
theorem dX7_thrift_138 : decode cX7_thrift 138 = .ok (.aload_n 0, 1) := by decide +kernel
theorem dX7_thrift_139 : decode cX7_thrift 139 = .ok (.getfield 210, 3) := by decide +kernel
theorem dX7_thrift_142 : decode cX7_thrift 142 = .ok (.goto 5, 3) := by decide +kernel
theorem dX7_thrift_145 : decode cX7_thrift 145 = .ok (.iload 4, 2) := by decide +kernel
theorem dX7_thrift_147 : decode cX7_thrift 147 = .ok (.istore 4, 2) := by decide +kernel
theorem dX7_thrift_149 : decode cX7_thrift 149 = .ok (.iinc 5 1, 3) := by decide +kernel
theorem dX7_thrift_152 : decode cX7_thrift 152 = .ok (.goto (-109), 3) := by decide +kernel
theorem dX7_thrift_155 : decode cX7_thrift 155 = .ok (.iload_n 3, 1) := by decide +kernel
theorem dX7_thrift_156 : decode cX7_thrift 156 = .ok (.ifCond .lt 7, 3) := by decide +kernel
theorem dX7_thrift_159 : decode cX7_thrift 159 = .ok (.iload_n 2, 1) := by decide +kernel
theorem dX7_thrift_160 : decode cX7_thrift 160 = .ok (.ifCond .ne 7, 3) := by decide +kernel
theorem dX7_thrift_163 : decode cX7_thrift 163 = .ok (.iload_n 3, 1) := by decide +kernel
theorem dX7_thrift_164 : decode cX7_thrift 164 = .ok (.goto 5, 3) := by decide +kernel
theorem dX7_thrift_167 : decode cX7_thrift 167 = .ok (.iload 4, 2) := by decide +kernel
theorem dX7_thrift_169 : decode cX7_thrift 169 = .ok (.ireturn, 1) := by decide +kernel
theorem dX7_costs_0 : decode cX7_costs 0 = .ok (.aload_n 0, 1) := by decide +kernel
theorem dX7_costs_1 : decode cX7_costs 1 = .ok (.iload_n 1, 1) := by decide +kernel
theorem dX7_costs_2 : decode cX7_costs 2 = .ok (.invokevirtual 145, 3) := by decide +kernel
theorem dX7_costs_5 : decode cX7_costs 5 = .ok (.ifCond .ne 7, 3) := by decide +kernel
theorem dX7_costs_8 : decode cX7_costs 8 = .ok (.ldc_w 272, 3) := by decide +kernel
theorem dX7_costs_11 : decode cX7_costs 11 = .ok (.ireturn, 1) := by decide +kernel
theorem dX7_costs_12 : decode cX7_costs 12 = .ok (.aload_n 0, 1) := by decide +kernel
theorem dX7_costs_13 : decode cX7_costs 13 = .ok (.invokevirtual 248, 3) := by decide +kernel
theorem dX7_costs_16 : decode cX7_costs 16 = .ok (.aload_n 0, 1) := by decide +kernel
theorem dX7_costs_17 : decode cX7_costs 17 = .ok (.invokevirtual 251, 3) := by decide +kernel
theorem dX7_costs_20 : decode cX7_costs 20 = .ok (.aload_n 0, 1) := by decide +kernel
theorem dX7_costs_21 : decode cX7_costs 21 = .ok (.invokevirtual 256, 3) := by decide +kernel
theorem dX7_costs_24 : decode cX7_costs 24 = .ok (.aload_n 0, 1) := by decide +kernel
theorem dX7_costs_25 : decode cX7_costs 25 = .ok (.getfield 64, 3) := by decide +kernel
theorem dX7_costs_28 : decode cX7_costs 28 = .ok (.iload_n 1, 1) := by decide +kernel
theorem dX7_costs_29 : decode cX7_costs 29 = .ok (.iaload, 1) := by decide +kernel
theorem dX7_costs_30 : decode cX7_costs 30 = .ok (.isub, 1) := by decide +kernel
theorem dX7_costs_31 : decode cX7_costs 31 = .ok (.istore_n 2, 1) := by decide +kernel
theorem dX7_costs_32 : decode cX7_costs 32 = .ok (.aload_n 0, 1) := by decide +kernel
theorem dX7_costs_33 : decode cX7_costs 33 = .ok (.iload_n 1, 1) := by decide +kernel
theorem dX7_costs_34 : decode cX7_costs 34 = .ok (.putfield 191, 3) := by decide +kernel
theorem dX7_costs_37 : decode cX7_costs 37 = .ok (.aload_n 0, 1) := by decide +kernel
theorem dX7_costs_38 : decode cX7_costs 38 = .ok (.invokevirtual 251, 3) := by decide +kernel
theorem dX7_costs_41 : decode cX7_costs 41 = .ok (.iload_n 2, 1) := by decide +kernel
theorem dX7_costs_42 : decode cX7_costs 42 = .ok (.aload_n 0, 1) := by decide +kernel
theorem dX7_costs_43 : decode cX7_costs 43 = .ok (.invokevirtual 256, 3) := by decide +kernel
theorem dX7_costs_46 : decode cX7_costs 46 = .ok (.isub, 1) := by decide +kernel
theorem dX7_costs_47 : decode cX7_costs 47 = .ok (.ireturn, 1) := by decide +kernel
theorem dX7_rules_0 : decode cX7_rules 0 = .ok (.aload_n 0, 1) := by decide +kernel
theorem dX7_rules_1 : decode cX7_rules 1 = .ok (.invokevirtual 248, 3) := by decide +kernel
theorem dX7_rules_4 : decode cX7_rules 4 = .ok (.aload_n 0, 1) := by decide +kernel
theorem dX7_rules_5 : decode cX7_rules 5 = .ok (.iconst 0, 1) := by decide +kernel
theorem dX7_rules_6 : decode cX7_rules 6 = .ok (.putfield 188, 3) := by decide +kernel
theorem dX7_rules_9 : decode cX7_rules 9 = .ok (.aload_n 0, 1) := by decide +kernel
theorem dX7_rules_10 : decode cX7_rules 10 = .ok (.invokevirtual 251, 3) := by decide +kernel
theorem dX7_rules_13 : decode cX7_rules 13 = .ok (.aload_n 0, 1) := by decide +kernel
theorem dX7_rules_14 : decode cX7_rules 14 = .ok (.invokevirtual 256, 3) := by decide +kernel
theorem dX7_rules_17 : decode cX7_rules 17 = .ok (.istore_n 1, 1) := by decide +kernel
theorem dX7_rules_18 : decode cX7_rules 18 = .ok (.aload_n 0, 1) := by decide +kernel
theorem dX7_rules_19 : decode cX7_rules 19 = .ok (.iconst 1, 1) := by decide +kernel
theorem dX7_rules_20 : decode cX7_rules 20 = .ok (.putfield 188, 3) := by decide +kernel
theorem dX7_rules_23 : decode cX7_rules 23 = .ok (.aload_n 0, 1) := by decide +kernel
theorem dX7_rules_24 : decode cX7_rules 24 = .ok (.invokevirtual 251, 3) := by decide +kernel
theorem dX7_rules_27 : decode cX7_rules 27 = .ok (.iload_n 1, 1) := by decide +kernel
theorem dX7_rules_28 : decode cX7_rules 28 = .ok (.aload_n 0, 1) := by decide +kernel
theorem dX7_rules_29 : decode cX7_rules 29 = .ok (.invokevirtual 256, 3) := by decide +kernel
theorem dX7_rules_32 : decode cX7_rules 32 = .ok (.isub, 1) := by decide +kernel
theorem dX7_rules_33 : decode cX7_rules 33 = .ok (.ireturn, 1) := by decide +kernel
theorem dX7_stood_0 : decode cX7_stood 0 = .ok (.iload_n 1, 1) := by decide +kernel
theorem dX7_stood_1 : decode cX7_stood 1 = .ok (.invokestatic 273, 3) := by decide +kernel
theorem dX7_stood_4 : decode cX7_stood 4 = .ok (.ifCond .eq 23, 3) := by decide +kernel
theorem dX7_stood_7 : decode cX7_stood 7 = .ok (.iload_n 2, 1) := by decide +kernel
theorem dX7_stood_8 : decode cX7_stood 8 = .ok (.invokestatic 276, 3) := by decide +kernel
theorem dX7_stood_11 : decode cX7_stood 11 = .ok (.ifCond .eq 16, 3) := by decide +kernel
theorem dX7_stood_14 : decode cX7_stood 14 = .ok (.iload 4, 2) := by decide +kernel
theorem dX7_stood_16 : decode cX7_stood 16 = .ok (.i2l, 1) := by decide +kernel
theorem dX7_stood_17 : decode cX7_stood 17 = .ok (.lconst 1, 1) := by decide +kernel
theorem dX7_stood_18 : decode cX7_stood 18 = .ok (.ldc2_w 110, 3) := by decide +kernel
theorem dX7_stood_21 : decode cX7_stood 21 = .ok (.invokestatic 101, 3) := by decide +kernel
theorem dX7_stood_24 : decode cX7_stood 24 = .ok (.ifCond .ne 5, 3) := by decide +kernel
theorem dX7_stood_27 : decode cX7_stood 27 = .ok (.iconst (-1), 1) := by decide +kernel
theorem dX7_stood_28 : decode cX7_stood 28 = .ok (.ireturn, 1) := by decide +kernel
theorem dX7_stood_29 : decode cX7_stood 29 = .ok (.aload_n 0, 1) := by decide +kernel
theorem dX7_stood_30 : decode cX7_stood 30 = .ok (.iload_n 1, 1) := by decide +kernel
theorem dX7_stood_31 : decode cX7_stood 31 = .ok (.iload_n 2, 1) := by decide +kernel
theorem dX7_stood_32 : decode cX7_stood 32 = .ok (.iload_n 3, 1) := by decide +kernel
theorem dX7_stood_33 : decode cX7_stood 33 = .ok (.iload 4, 2) := by decide +kernel
theorem dX7_stood_35 : decode cX7_stood 35 = .ok (.invokevirtual 279, 3) := by decide +kernel
theorem dX7_stood_38 : decode cX7_stood 38 = .ok (.istore 5, 2) := by decide +kernel
theorem dX7_stood_40 : decode cX7_stood 40 = .ok (.iload 5, 2) := by decide +kernel
theorem dX7_stood_42 : decode cX7_stood 42 = .ok (.ifCond .ge 6, 3) := by decide +kernel
theorem dX7_stood_45 : decode cX7_stood 45 = .ok (.iload 5, 2) := by decide +kernel
theorem dX7_stood_47 : decode cX7_stood 47 = .ok (.ireturn, 1) := by decide +kernel
theorem dX7_stood_48 : decode cX7_stood 48 = .ok (.iconst 0, 1) := by decide +kernel
theorem dX7_stood_49 : decode cX7_stood 49 = .ok (.istore 6, 2) := by decide +kernel
theorem dX7_stood_51 : decode cX7_stood 51 = .ok (.iconst 0, 1) := by decide +kernel
theorem dX7_stood_52 : decode cX7_stood 52 = .ok (.istore 7, 2) := by decide +kernel
theorem dX7_stood_54 : decode cX7_stood 54 = .ok (.iload 7, 2) := by decide +kernel
theorem dX7_stood_56 : decode cX7_stood 56 = .ok (.iconst 4, 1) := by decide +kernel
theorem dX7_stood_57 : decode cX7_stood 57 = .ok (.if_icmp .ge 132, 3) := by decide +kernel
theorem dX7_stood_60 : decode cX7_stood 60 = .ok (.iload 7, 2) := by decide +kernel
theorem dX7_stood_62 : decode cX7_stood 62 = .ok (.iconst 3, 1) := by decide +kernel
theorem dX7_stood_63 : decode cX7_stood 63 = .ok (.if_icmp .eq 12, 3) := by decide +kernel
theorem dX7_stood_66 : decode cX7_stood 66 = .ok (.iload 7, 2) := by decide +kernel
theorem dX7_stood_68 : decode cX7_stood 68 = .ok (.aload_n 0, 1) := by decide +kernel
theorem dX7_stood_69 : decode cX7_stood 69 = .ok (.getfield 97, 3) := by decide +kernel
theorem dX7_stood_72 : decode cX7_stood 72 = .ok (.if_icmp .ge 111, 3) := by decide +kernel
theorem dX7_stood_75 : decode cX7_stood 75 = .ok (.aload_n 0, 1) := by decide +kernel
theorem dX7_stood_76 : decode cX7_stood 76 = .ok (.invokevirtual 248, 3) := by decide +kernel
theorem dX7_stood_79 : decode cX7_stood 79 = .ok (.iload 7, 2) := by decide +kernel
theorem dX7_stood_81 : decode cX7_stood 81 = .ok (.iconst 3, 1) := by decide +kernel
theorem dX7_stood_82 : decode cX7_stood 82 = .ok (.if_icmp .ge 19, 3) := by decide +kernel
theorem dX7_stood_85 : decode cX7_stood 85 = .ok (.aload_n 0, 1) := by decide +kernel
theorem dX7_stood_86 : decode cX7_stood 86 = .ok (.getfield 25, 3) := by decide +kernel
theorem dX7_stood_89 : decode cX7_stood 89 = .ok (.iload 7, 2) := by decide +kernel
theorem dX7_stood_91 : decode cX7_stood 91 = .ok (.iconst 0, 1) := by decide +kernel
theorem dX7_stood_92 : decode cX7_stood 92 = .ok (.iastore, 1) := by decide +kernel
theorem dX7_stood_93 : decode cX7_stood 93 = .ok (.aload_n 0, 1) := by decide +kernel
theorem dX7_stood_94 : decode cX7_stood 94 = .ok (.getfield 28, 3) := by decide +kernel
theorem dX7_stood_97 : decode cX7_stood 97 = .ok (.iload 7, 2) := by decide +kernel
theorem dX7_stood_99 : decode cX7_stood 99 = .ok (.iconst 0, 1) := by decide +kernel
theorem dX7_stood_100 : decode cX7_stood 100 = .ok (.iastore, 1) := by decide +kernel
theorem dX7_stood_101 : decode cX7_stood 101 = .ok (.aload_n 0, 1) := by decide +kernel
theorem dX7_stood_102 : decode cX7_stood 102 = .ok (.invokevirtual 251, 3) := by decide +kernel
theorem dX7_stood_105 : decode cX7_stood 105 = .ok (.iconst 1, 1) := by decide +kernel
theorem dX7_stood_106 : decode cX7_stood 106 = .ok (.istore 8, 2) := by decide +kernel
theorem dX7_stood_108 : decode cX7_stood 108 = .ok (.iconst 0, 1) := by decide +kernel
theorem dX7_stood_109 : decode cX7_stood 109 = .ok (.istore 9, 2) := by decide +kernel
theorem dX7_stood_111 : decode cX7_stood 111 = .ok (.iload 9, 2) := by decide +kernel
theorem dX7_stood_113 : decode cX7_stood 113 = .ok (.iload 4, 2) := by decide +kernel
theorem dX7_stood_115 : decode cX7_stood 115 = .ok (.if_icmp .ge 50, 3) := by decide +kernel
theorem dX7_stood_118 : decode cX7_stood 118 = .ok (.iload 8, 2) := by decide +kernel
theorem dX7_stood_120 : decode cX7_stood 120 = .ok (.ifCond .eq 36, 3) := by decide +kernel
theorem dX7_stood_123 : decode cX7_stood 123 = .ok (.aload_n 0, 1) := by decide +kernel
theorem dX7_stood_124 : decode cX7_stood 124 = .ok (.getfield 91, 3) := by decide +kernel
theorem dX7_stood_127 : decode cX7_stood 127 = .ok (.bipush 16, 2) := by decide +kernel
theorem dX7_stood_129 : decode cX7_stood 129 = .ok (.iload_n 1, 1) := by decide +kernel
theorem dX7_stood_130 : decode cX7_stood 130 = .ok (.imul, 1) := by decide +kernel
theorem dX7_stood_131 : decode cX7_stood 131 = .ok (.iload_n 3, 1) := by decide +kernel
theorem dX7_stood_132 : decode cX7_stood 132 = .ok (.iadd, 1) := by decide +kernel
theorem dX7_stood_133 : decode cX7_stood 133 = .ok (.iload 9, 2) := by decide +kernel
theorem dX7_stood_135 : decode cX7_stood 135 = .ok (.iadd, 1) := by decide +kernel
theorem dX7_stood_136 : decode cX7_stood 136 = .ok (.iaload, 1) := by decide +kernel
theorem dX7_stood_137 : decode cX7_stood 137 = .ok (.aload_n 0, 1) := by decide +kernel
theorem dX7_stood_138 : decode cX7_stood 138 = .ok (.bipush 10, 2) := by decide +kernel
theorem dX7_stood_140 : decode cX7_stood 140 = .ok (.iload 9, 2) := by decide +kernel
theorem dX7_stood_142 : decode cX7_stood 142 = .ok (.imul, 1) := by decide +kernel
theorem dX7_stood_143 : decode cX7_stood 143 = .ok (.bipush 9, 2) := by decide +kernel
theorem dX7_stood_145 : decode cX7_stood 145 = .ok (.iadd, 1) := by decide +kernel
theorem dX7_stood_146 : decode cX7_stood 146 = .ok (.invokevirtual 259, 3) := by decide +kernel
theorem dX7_stood_149 : decode cX7_stood 149 = .ok (.if_icmp .ne 7, 3) := by decide +kernel
theorem dX7_stood_152 : decode cX7_stood 152 = .ok (.iconst 1, 1) := by decide +kernel
theorem dX7_stood_153 : decode cX7_stood 153 = .ok (.goto 4, 3) := by decide +kernel
theorem dX7_stood_156 : decode cX7_stood 156 = .ok (.iconst 0, 1) := by decide +kernel
theorem dX7_stood_157 : decode cX7_stood 157 = .ok (.istore 8, 2) := by decide +kernel
theorem dX7_stood_159 : decode cX7_stood 159 = .ok (.iinc 9 1, 3) := by decide +kernel
theorem dX7_stood_162 : decode cX7_stood 162 = .ok (.goto (-51), 3) := by decide +kernel
theorem dX7_stood_165 : decode cX7_stood 165 = .ok (.iload 6, 2) := by decide +kernel
theorem dX7_stood_167 : decode cX7_stood 167 = .ok (.iload 8, 2) := by decide +kernel
theorem dX7_stood_169 : decode cX7_stood 169 = .ok (.ifCond .eq 10, 3) := by decide +kernel
theorem dX7_stood_172 : decode cX7_stood 172 = .ok (.iconst 1, 1) := by decide +kernel
theorem dX7_stood_173 : decode cX7_stood 173 = .ok (.iload 7, 2) := by decide +kernel
theorem dX7_stood_175 : decode cX7_stood 175 = .ok (.ishl, 1) := by decide +kernel
theorem dX7_stood_176 : decode cX7_stood 176 = .ok (.goto 4, 3) := by decide +kernel
theorem dX7_stood_179 : decode cX7_stood 179 = .ok (.iconst 0, 1) := by decide +kernel
theorem dX7_stood_180 : decode cX7_stood 180 = .ok (.ior, 1) := by decide +kernel
theorem dX7_stood_181 : decode cX7_stood 181 = .ok (.istore 6, 2) := by decide +kernel
theorem dX7_stood_183 : decode cX7_stood 183 = .ok (.iinc 7 1, 3) := by decide +kernel
theorem dX7_stood_186 : decode cX7_stood 186 = .ok (.goto (-132), 3) := by decide +kernel
theorem dX7_stood_189 : decode cX7_stood 189 = .ok (.iload 6, 2) := by decide +kernel
theorem dX7_stood_191 : decode cX7_stood 191 = .ok (.ireturn, 1) := by decide +kernel
theorem dX7_saves_0 : decode cX7_saves 0 = .ok (.iconst 0, 1) := by decide +kernel
theorem dX7_saves_1 : decode cX7_saves 1 = .ok (.istore_n 3, 1) := by decide +kernel
theorem dX7_saves_2 : decode cX7_saves 2 = .ok (.iload_n 3, 1) := by decide +kernel
theorem dX7_saves_3 : decode cX7_saves 3 = .ok (.aload_n 0, 1) := by decide +kernel
theorem dX7_saves_4 : decode cX7_saves 4 = .ok (.arraylength, 1) := by decide +kernel
theorem dX7_saves_5 : decode cX7_saves 5 = .ok (.if_icmp .ge 17, 3) := by decide +kernel
theorem dX7_saves_8 : decode cX7_saves 8 = .ok (.aload_n 1, 1) := by decide +kernel
theorem dX7_saves_9 : decode cX7_saves 9 = .ok (.iload_n 2, 1) := by decide +kernel
theorem dX7_saves_10 : decode cX7_saves 10 = .ok (.iload_n 3, 1) := by decide +kernel
theorem dX7_saves_11 : decode cX7_saves 11 = .ok (.iadd, 1) := by decide +kernel
theorem dX7_saves_12 : decode cX7_saves 12 = .ok (.aload_n 0, 1) := by decide +kernel
theorem dX7_saves_13 : decode cX7_saves 13 = .ok (.iload_n 3, 1) := by decide +kernel
theorem dX7_saves_14 : decode cX7_saves 14 = .ok (.iaload, 1) := by decide +kernel
theorem dX7_saves_15 : decode cX7_saves 15 = .ok (.iastore, 1) := by decide +kernel
theorem dX7_saves_16 : decode cX7_saves 16 = .ok (.iinc 3 1, 3) := by decide +kernel
theorem dX7_saves_19 : decode cX7_saves 19 = .ok (.goto (-17), 3) := by decide +kernel
theorem dX7_saves_22 : decode cX7_saves 22 = .ok (.iload_n 2, 1) := by decide +kernel
theorem dX7_saves_23 : decode cX7_saves 23 = .ok (.aload_n 0, 1) := by decide +kernel
theorem dX7_saves_24 : decode cX7_saves 24 = .ok (.arraylength, 1) := by decide +kernel
theorem dX7_saves_25 : decode cX7_saves 25 = .ok (.iadd, 1) := by decide +kernel
theorem dX7_saves_26 : decode cX7_saves 26 = .ok (.ireturn, 1) := by decide +kernel
theorem dX7_gives_0 : decode cX7_gives 0 = .ok (.iconst 0, 1) := by decide +kernel
theorem dX7_gives_1 : decode cX7_gives 1 = .ok (.istore_n 3, 1) := by decide +kernel
theorem dX7_gives_2 : decode cX7_gives 2 = .ok (.iload_n 3, 1) := by decide +kernel
theorem dX7_gives_3 : decode cX7_gives 3 = .ok (.aload_n 2, 1) := by decide +kernel
theorem dX7_gives_4 : decode cX7_gives 4 = .ok (.arraylength, 1) := by decide +kernel
theorem dX7_gives_5 : decode cX7_gives 5 = .ok (.if_icmp .ge 17, 3) := by decide +kernel
theorem dX7_gives_8 : decode cX7_gives 8 = .ok (.aload_n 2, 1) := by decide +kernel
theorem dX7_gives_9 : decode cX7_gives 9 = .ok (.iload_n 3, 1) := by decide +kernel
theorem dX7_gives_10 : decode cX7_gives 10 = .ok (.aload_n 0, 1) := by decide +kernel
theorem dX7_gives_11 : decode cX7_gives 11 = .ok (.iload_n 1, 1) := by decide +kernel
theorem dX7_gives_12 : decode cX7_gives 12 = .ok (.iload_n 3, 1) := by decide +kernel
theorem dX7_gives_13 : decode cX7_gives 13 = .ok (.iadd, 1) := by decide +kernel
theorem dX7_gives_14 : decode cX7_gives 14 = .ok (.iaload, 1) := by decide +kernel
theorem dX7_gives_15 : decode cX7_gives 15 = .ok (.iastore, 1) := by decide +kernel
theorem dX7_gives_16 : decode cX7_gives 16 = .ok (.iinc 3 1, 3) := by decide +kernel
theorem dX7_gives_19 : decode cX7_gives 19 = .ok (.goto (-17), 3) := by decide +kernel
theorem dX7_gives_22 : decode cX7_gives 22 = .ok (.iload_n 1, 1) := by decide +kernel
theorem dX7_gives_23 : decode cX7_gives 23 = .ok (.aload_n 2, 1) := by decide +kernel
theorem dX7_gives_24 : decode cX7_gives 24 = .ok (.arraylength, 1) := by decide +kernel
theorem dX7_gives_25 : decode cX7_gives 25 = .ok (.iadd, 1) := by decide +kernel
theorem dX7_gives_26 : decode cX7_gives 26 = .ok (.ireturn, 1) := by decide +kernel
theorem dX7_image_0 : decode cX7_image 0 = .ok (.aload_n 0, 1) := by decide +kernel
theorem dX7_image_1 : decode cX7_image 1 = .ok (.getfield 7, 3) := by decide +kernel
theorem dX7_image_4 : decode cX7_image 4 = .ok (.aload_n 0, 1) := by decide +kernel
theorem dX7_image_5 : decode cX7_image 5 = .ok (.getfield 82, 3) := by decide +kernel
theorem dX7_image_8 : decode cX7_image 8 = .ok (.iconst 0, 1) := by decide +kernel
theorem dX7_image_9 : decode cX7_image 9 = .ok (.invokestatic 283, 3) := by decide +kernel
theorem dX7_image_12 : decode cX7_image 12 = .ok (.istore_n 1, 1) := by decide +kernel
theorem dX7_image_13 : decode cX7_image 13 = .ok (.aload_n 0, 1) := by decide +kernel
theorem dX7_image_14 : decode cX7_image 14 = .ok (.getfield 13, 3) := by decide +kernel
theorem dX7_image_17 : decode cX7_image 17 = .ok (.aload_n 0, 1) := by decide +kernel
theorem dX7_image_18 : decode cX7_image 18 = .ok (.getfield 82, 3) := by decide +kernel
theorem dX7_image_21 : decode cX7_image 21 = .ok (.iload_n 1, 1) := by decide +kernel
theorem dX7_image_22 : decode cX7_image 22 = .ok (.invokestatic 283, 3) := by decide +kernel
theorem dX7_image_25 : decode cX7_image 25 = .ok (.istore_n 1, 1) := by decide +kernel
theorem dX7_image_26 : decode cX7_image 26 = .ok (.aload_n 0, 1) := by decide +kernel
theorem dX7_image_27 : decode cX7_image 27 = .ok (.getfield 16, 3) := by decide +kernel
theorem dX7_image_30 : decode cX7_image 30 = .ok (.aload_n 0, 1) := by decide +kernel
theorem dX7_image_31 : decode cX7_image 31 = .ok (.getfield 82, 3) := by decide +kernel
theorem dX7_image_34 : decode cX7_image 34 = .ok (.iload_n 1, 1) := by decide +kernel
theorem dX7_image_35 : decode cX7_image 35 = .ok (.invokestatic 283, 3) := by decide +kernel
theorem dX7_image_38 : decode cX7_image 38 = .ok (.istore_n 1, 1) := by decide +kernel
theorem dX7_image_39 : decode cX7_image 39 = .ok (.aload_n 0, 1) := by decide +kernel
theorem dX7_image_40 : decode cX7_image 40 = .ok (.getfield 82, 3) := by decide +kernel
theorem dX7_image_43 : decode cX7_image 43 = .ok (.iload_n 1, 1) := by decide +kernel
theorem dX7_image_44 : decode cX7_image 44 = .ok (.aload_n 0, 1) := by decide +kernel
theorem dX7_image_45 : decode cX7_image 45 = .ok (.getfield 97, 3) := by decide +kernel
theorem dX7_image_48 : decode cX7_image 48 = .ok (.iastore, 1) := by decide +kernel
theorem dX7_image_49 : decode cX7_image 49 = .ok (.aload_n 0, 1) := by decide +kernel
theorem dX7_image_50 : decode cX7_image 50 = .ok (.getfield 82, 3) := by decide +kernel
theorem dX7_image_53 : decode cX7_image 53 = .ok (.iload_n 1, 1) := by decide +kernel
theorem dX7_image_54 : decode cX7_image 54 = .ok (.iconst 1, 1) := by decide +kernel
theorem dX7_image_55 : decode cX7_image 55 = .ok (.iadd, 1) := by decide +kernel
theorem dX7_image_56 : decode cX7_image 56 = .ok (.aload_n 0, 1) := by decide +kernel
theorem dX7_image_57 : decode cX7_image 57 = .ok (.getfield 133, 3) := by decide +kernel
theorem dX7_image_60 : decode cX7_image 60 = .ok (.iastore, 1) := by decide +kernel
theorem dX7_image_61 : decode cX7_image 61 = .ok (.aload_n 0, 1) := by decide +kernel
theorem dX7_image_62 : decode cX7_image 62 = .ok (.getfield 82, 3) := by decide +kernel
theorem dX7_image_65 : decode cX7_image 65 = .ok (.iload_n 1, 1) := by decide +kernel
theorem dX7_image_66 : decode cX7_image 66 = .ok (.iconst 2, 1) := by decide +kernel
theorem dX7_image_67 : decode cX7_image 67 = .ok (.iadd, 1) := by decide +kernel
theorem dX7_image_68 : decode cX7_image 68 = .ok (.aload_n 0, 1) := by decide +kernel
theorem dX7_image_69 : decode cX7_image 69 = .ok (.getfield 136, 3) := by decide +kernel
theorem dX7_image_72 : decode cX7_image 72 = .ok (.iastore, 1) := by decide +kernel
theorem dX7_image_73 : decode cX7_image 73 = .ok (.aload_n 0, 1) := by decide +kernel
theorem dX7_image_74 : decode cX7_image 74 = .ok (.getfield 82, 3) := by decide +kernel
theorem dX7_image_77 : decode cX7_image 77 = .ok (.iload_n 1, 1) := by decide +kernel
theorem dX7_image_78 : decode cX7_image 78 = .ok (.iconst 3, 1) := by decide +kernel
theorem dX7_image_79 : decode cX7_image 79 = .ok (.iadd, 1) := by decide +kernel
theorem dX7_image_80 : decode cX7_image 80 = .ok (.aload_n 0, 1) := by decide +kernel
theorem dX7_image_81 : decode cX7_image 81 = .ok (.getfield 105, 3) := by decide +kernel
theorem dX7_image_84 : decode cX7_image 84 = .ok (.iastore, 1) := by decide +kernel
theorem dX7_image_85 : decode cX7_image 85 = .ok (.aload_n 0, 1) := by decide +kernel
theorem dX7_image_86 : decode cX7_image 86 = .ok (.iconst 1, 1) := by decide +kernel
theorem dX7_image_87 : decode cX7_image 87 = .ok (.putfield 287, 3) := by decide +kernel
theorem dX7_image_90 : decode cX7_image 90 = .ok (.iconst 1, 1) := by decide +kernel
theorem dX7_image_91 : decode cX7_image 91 = .ok (.ireturn, 1) := by decide +kernel
theorem dX7_restore_0 : decode cX7_restore 0 = .ok (.aload_n 0, 1) := by decide +kernel
theorem dX7_restore_1 : decode cX7_restore 1 = .ok (.getfield 287, 3) := by decide +kernel
theorem dX7_restore_4 : decode cX7_restore 4 = .ok (.ifCond .ne 6, 3) := by decide +kernel
theorem dX7_restore_7 : decode cX7_restore 7 = .ok (.bipush (-4), 2) := by decide +kernel
theorem dX7_restore_9 : decode cX7_restore 9 = .ok (.ireturn, 1) := by decide +kernel
theorem dX7_restore_10 : decode cX7_restore 10 = .ok (.aload_n 0, 1) := by decide +kernel
theorem dX7_restore_11 : decode cX7_restore 11 = .ok (.getfield 82, 3) := by decide +kernel
theorem dX7_restore_14 : decode cX7_restore 14 = .ok (.iconst 0, 1) := by decide +kernel
theorem dX7_restore_15 : decode cX7_restore 15 = .ok (.aload_n 0, 1) := by decide +kernel
theorem dX7_restore_16 : decode cX7_restore 16 = .ok (.getfield 7, 3) := by decide +kernel
theorem dX7_restore_19 : decode cX7_restore 19 = .ok (.invokestatic 290, 3) := by decide +kernel
theorem dX7_restore_22 : decode cX7_restore 22 = .ok (.istore_n 1, 1) := by decide +kernel
theorem dX7_restore_23 : decode cX7_restore 23 = .ok (.aload_n 0, 1) := by decide +kernel
theorem dX7_restore_24 : decode cX7_restore 24 = .ok (.getfield 82, 3) := by decide +kernel
theorem dX7_restore_27 : decode cX7_restore 27 = .ok (.iload_n 1, 1) := by decide +kernel
theorem dX7_restore_28 : decode cX7_restore 28 = .ok (.aload_n 0, 1) := by decide +kernel
theorem dX7_restore_29 : decode cX7_restore 29 = .ok (.getfield 13, 3) := by decide +kernel
theorem dX7_restore_32 : decode cX7_restore 32 = .ok (.invokestatic 290, 3) := by decide +kernel
theorem dX7_restore_35 : decode cX7_restore 35 = .ok (.istore_n 1, 1) := by decide +kernel
theorem dX7_restore_36 : decode cX7_restore 36 = .ok (.aload_n 0, 1) := by decide +kernel
theorem dX7_restore_37 : decode cX7_restore 37 = .ok (.getfield 82, 3) := by decide +kernel
theorem dX7_restore_40 : decode cX7_restore 40 = .ok (.iload_n 1, 1) := by decide +kernel
theorem dX7_restore_41 : decode cX7_restore 41 = .ok (.aload_n 0, 1) := by decide +kernel
theorem dX7_restore_42 : decode cX7_restore 42 = .ok (.getfield 16, 3) := by decide +kernel
theorem dX7_restore_45 : decode cX7_restore 45 = .ok (.invokestatic 290, 3) := by decide +kernel
theorem dX7_restore_48 : decode cX7_restore 48 = .ok (.istore_n 1, 1) := by decide +kernel
theorem dX7_restore_49 : decode cX7_restore 49 = .ok (.aload_n 0, 1) := by decide +kernel
theorem dX7_restore_50 : decode cX7_restore 50 = .ok (.aload_n 0, 1) := by decide +kernel
theorem dX7_restore_51 : decode cX7_restore 51 = .ok (.getfield 82, 3) := by decide +kernel
theorem dX7_restore_54 : decode cX7_restore 54 = .ok (.iload_n 1, 1) := by decide +kernel
theorem dX7_restore_55 : decode cX7_restore 55 = .ok (.iaload, 1) := by decide +kernel
theorem dX7_restore_56 : decode cX7_restore 56 = .ok (.putfield 97, 3) := by decide +kernel
theorem dX7_restore_59 : decode cX7_restore 59 = .ok (.aload_n 0, 1) := by decide +kernel
theorem dX7_restore_60 : decode cX7_restore 60 = .ok (.aload_n 0, 1) := by decide +kernel
theorem dX7_restore_61 : decode cX7_restore 61 = .ok (.getfield 82, 3) := by decide +kernel
theorem dX7_restore_64 : decode cX7_restore 64 = .ok (.iload_n 1, 1) := by decide +kernel
theorem dX7_restore_65 : decode cX7_restore 65 = .ok (.iconst 1, 1) := by decide +kernel
theorem dX7_restore_66 : decode cX7_restore 66 = .ok (.iadd, 1) := by decide +kernel
theorem dX7_restore_67 : decode cX7_restore 67 = .ok (.iaload, 1) := by decide +kernel
theorem dX7_restore_68 : decode cX7_restore 68 = .ok (.putfield 133, 3) := by decide +kernel
theorem dX7_restore_71 : decode cX7_restore 71 = .ok (.aload_n 0, 1) := by decide +kernel
theorem dX7_restore_72 : decode cX7_restore 72 = .ok (.aload_n 0, 1) := by decide +kernel
theorem dX7_restore_73 : decode cX7_restore 73 = .ok (.getfield 82, 3) := by decide +kernel
theorem dX7_restore_76 : decode cX7_restore 76 = .ok (.iload_n 1, 1) := by decide +kernel
theorem dX7_restore_77 : decode cX7_restore 77 = .ok (.iconst 2, 1) := by decide +kernel
theorem dX7_restore_78 : decode cX7_restore 78 = .ok (.iadd, 1) := by decide +kernel
theorem dX7_restore_79 : decode cX7_restore 79 = .ok (.iaload, 1) := by decide +kernel
theorem dX7_restore_80 : decode cX7_restore 80 = .ok (.putfield 136, 3) := by decide +kernel
theorem dX7_restore_83 : decode cX7_restore 83 = .ok (.aload_n 0, 1) := by decide +kernel
theorem dX7_restore_84 : decode cX7_restore 84 = .ok (.aload_n 0, 1) := by decide +kernel
theorem dX7_restore_85 : decode cX7_restore 85 = .ok (.getfield 82, 3) := by decide +kernel
theorem dX7_restore_88 : decode cX7_restore 88 = .ok (.iload_n 1, 1) := by decide +kernel
theorem dX7_restore_89 : decode cX7_restore 89 = .ok (.iconst 3, 1) := by decide +kernel
theorem dX7_restore_90 : decode cX7_restore 90 = .ok (.iadd, 1) := by decide +kernel
theorem dX7_restore_91 : decode cX7_restore 91 = .ok (.iaload, 1) := by decide +kernel
theorem dX7_restore_92 : decode cX7_restore 92 = .ok (.putfield 105, 3) := by decide +kernel
theorem dX7_restore_95 : decode cX7_restore 95 = .ok (.iconst 1, 1) := by decide +kernel
theorem dX7_restore_96 : decode cX7_restore 96 = .ok (.ireturn, 1) := by decide +kernel
theorem dX7_isSheet_0 : decode cX7_isSheet 0 = .ok (.iload_n 0, 1) := by decide +kernel
theorem dX7_isSheet_1 : decode cX7_isSheet 1 = .ok (.i2l, 1) := by decide +kernel
theorem dX7_isSheet_2 : decode cX7_isSheet 2 = .ok (.lconst 0, 1) := by decide +kernel
theorem dX7_isSheet_3 : decode cX7_isSheet 3 = .ok (.ldc2_w 108, 3) := by decide +kernel
theorem dX7_isSheet_6 : decode cX7_isSheet 6 = .ok (.invokestatic 101, 3) := by decide +kernel
theorem dX7_isSheet_9 : decode cX7_isSheet 9 = .ok (.ireturn, 1) := by decide +kernel
theorem dX7_isLane_0 : decode cX7_isLane 0 = .ok (.iload_n 0, 1) := by decide +kernel
theorem dX7_isLane_1 : decode cX7_isLane 1 = .ok (.i2l, 1) := by decide +kernel
theorem dX7_isLane_2 : decode cX7_isLane 2 = .ok (.lconst 0, 1) := by decide +kernel
theorem dX7_isLane_3 : decode cX7_isLane 3 = .ok (.ldc2_w 112, 3) := by decide +kernel
theorem dX7_isLane_6 : decode cX7_isLane 6 = .ok (.invokestatic 101, 3) := by decide +kernel
theorem dX7_isLane_9 : decode cX7_isLane 9 = .ok (.ireturn, 1) := by decide +kernel
theorem dX7_finds_0 : decode cX7_finds 0 = .ok (.aload_n 0, 1) := by decide +kernel
theorem dX7_finds_1 : decode cX7_finds 1 = .ok (.getfield 85, 3) := by decide +kernel
theorem dX7_finds_4 : decode cX7_finds 4 = .ok (.iload_n 1, 1) := by decide +kernel
theorem dX7_finds_5 : decode cX7_finds 5 = .ok (.iaload, 1) := by decide +kernel
theorem dX7_finds_6 : decode cX7_finds 6 = .ok (.ifCond .ge 6, 3) := by decide +kernel
theorem dX7_finds_9 : decode cX7_finds 9 = .ok (.bipush (-11), 2) := by decide +kernel
theorem dX7_finds_11 : decode cX7_finds 11 = .ok (.ireturn, 1) := by decide +kernel
theorem dX7_finds_12 : decode cX7_finds 12 = .ok (.aload_n 0, 1) := by decide +kernel
theorem dX7_finds_13 : decode cX7_finds 13 = .ok (.getfield 85, 3) := by decide +kernel
theorem dX7_finds_16 : decode cX7_finds 16 = .ok (.iload_n 1, 1) := by decide +kernel
theorem dX7_finds_17 : decode cX7_finds 17 = .ok (.iaload, 1) := by decide +kernel
theorem dX7_finds_18 : decode cX7_finds 18 = .ok (.iload_n 2, 1) := by decide +kernel
theorem dX7_finds_19 : decode cX7_finds 19 = .ok (.if_icmp .eq 6, 3) := by decide +kernel
theorem dX7_finds_22 : decode cX7_finds 22 = .ok (.bipush (-12), 2) := by decide +kernel
theorem dX7_finds_24 : decode cX7_finds 24 = .ok (.ireturn, 1) := by decide +kernel
theorem dX7_finds_25 : decode cX7_finds 25 = .ok (.iload_n 3, 1) := by decide +kernel
theorem dX7_finds_26 : decode cX7_finds 26 = .ok (.ifCond .lt 20, 3) := by decide +kernel
theorem dX7_finds_29 : decode cX7_finds 29 = .ok (.iload_n 3, 1) := by decide +kernel
theorem dX7_finds_30 : decode cX7_finds 30 = .ok (.i2l, 1) := by decide +kernel
theorem dX7_finds_31 : decode cX7_finds 31 = .ok (.iload 4, 2) := by decide +kernel
theorem dX7_finds_33 : decode cX7_finds 33 = .ok (.i2l, 1) := by decide +kernel
theorem dX7_finds_34 : decode cX7_finds 34 = .ok (.ladd, 1) := by decide +kernel
theorem dX7_finds_35 : decode cX7_finds 35 = .ok (.aload_n 0, 1) := by decide +kernel
theorem dX7_finds_36 : decode cX7_finds 36 = .ok (.getfield 88, 3) := by decide +kernel
theorem dX7_finds_39 : decode cX7_finds 39 = .ok (.iload_n 1, 1) := by decide +kernel
theorem dX7_finds_40 : decode cX7_finds 40 = .ok (.iaload, 1) := by decide +kernel
theorem dX7_finds_41 : decode cX7_finds 41 = .ok (.i2l, 1) := by decide +kernel
theorem dX7_finds_42 : decode cX7_finds 42 = .ok (.lcmp, 1) := by decide +kernel
theorem dX7_finds_43 : decode cX7_finds 43 = .ok (.ifCond .le 8, 3) := by decide +kernel
theorem dX7_finds_46 : decode cX7_finds 46 = .ok (.bipush (-13), 2) := by decide +kernel
theorem dX7_finds_48 : decode cX7_finds 48 = .ok (.goto 4, 3) := by decide +kernel
theorem dX7_finds_51 : decode cX7_finds 51 = .ok (.iconst 0, 1) := by decide +kernel
theorem dX7_finds_52 : decode cX7_finds 52 = .ok (.ireturn, 1) := by decide +kernel
theorem dX7_film_0 : decode cX7_film 0 = .ok (.iload_n 1, 1) := by decide +kernel
theorem dX7_film_1 : decode cX7_film 1 = .ok (.invokestatic 273, 3) := by decide +kernel
theorem dX7_film_4 : decode cX7_film 4 = .ok (.ifCond .eq 23, 3) := by decide +kernel
theorem dX7_film_7 : decode cX7_film 7 = .ok (.iload_n 2, 1) := by decide +kernel
theorem dX7_film_8 : decode cX7_film 8 = .ok (.invokestatic 276, 3) := by decide +kernel
theorem dX7_film_11 : decode cX7_film 11 = .ok (.ifCond .eq 16, 3) := by decide +kernel
theorem dX7_film_14 : decode cX7_film 14 = .ok (.iload 4, 2) := by decide +kernel
theorem dX7_film_16 : decode cX7_film 16 = .ok (.i2l, 1) := by decide +kernel
theorem dX7_film_17 : decode cX7_film 17 = .ok (.lconst 1, 1) := by decide +kernel
theorem dX7_film_18 : decode cX7_film 18 = .ok (.ldc2_w 110, 3) := by decide +kernel
theorem dX7_film_21 : decode cX7_film 21 = .ok (.invokestatic 101, 3) := by decide +kernel
theorem dX7_film_24 : decode cX7_film 24 = .ok (.ifCond .ne 5, 3) := by decide +kernel
theorem dX7_film_27 : decode cX7_film 27 = .ok (.iconst (-1), 1) := by decide +kernel
theorem dX7_film_28 : decode cX7_film 28 = .ok (.ireturn, 1) := by decide +kernel
theorem dX7_film_29 : decode cX7_film 29 = .ok (.aload_n 0, 1) := by decide +kernel
theorem dX7_film_30 : decode cX7_film 30 = .ok (.iload_n 1, 1) := by decide +kernel
theorem dX7_film_31 : decode cX7_film 31 = .ok (.iload_n 2, 1) := by decide +kernel
theorem dX7_film_32 : decode cX7_film 32 = .ok (.iload_n 3, 1) := by decide +kernel
theorem dX7_film_33 : decode cX7_film 33 = .ok (.iload 4, 2) := by decide +kernel
theorem dX7_film_35 : decode cX7_film 35 = .ok (.invokevirtual 279, 3) := by decide +kernel
theorem dX7_film_38 : decode cX7_film 38 = .ok (.istore 5, 2) := by decide +kernel
theorem dX7_film_40 : decode cX7_film 40 = .ok (.iload 5, 2) := by decide +kernel
theorem dX7_film_42 : decode cX7_film 42 = .ok (.ifCond .ge 6, 3) := by decide +kernel
theorem dX7_film_45 : decode cX7_film 45 = .ok (.iload 5, 2) := by decide +kernel
theorem dX7_film_47 : decode cX7_film 47 = .ok (.ireturn, 1) := by decide +kernel
theorem dX7_film_48 : decode cX7_film 48 = .ok (.aload_n 0, 1) := by decide +kernel
theorem dX7_film_49 : decode cX7_film 49 = .ok (.invokevirtual 248, 3) := by decide +kernel
theorem dX7_film_52 : decode cX7_film 52 = .ok (.aload_n 0, 1) := by decide +kernel
theorem dX7_film_53 : decode cX7_film 53 = .ok (.invokevirtual 251, 3) := by decide +kernel
theorem dX7_film_56 : decode cX7_film 56 = .ok (.iconst 0, 1) := by decide +kernel
theorem dX7_film_57 : decode cX7_film 57 = .ok (.istore 6, 2) := by decide +kernel
theorem dX7_film_59 : decode cX7_film 59 = .ok (.iload 6, 2) := by decide +kernel
theorem dX7_film_61 : decode cX7_film 61 = .ok (.iload 4, 2) := by decide +kernel
theorem dX7_film_63 : decode cX7_film 63 = .ok (.if_icmp .ge 35, 3) := by decide +kernel
theorem dX7_film_66 : decode cX7_film 66 = .ok (.aload_n 0, 1) := by decide +kernel
theorem dX7_film_67 : decode cX7_film 67 = .ok (.getfield 91, 3) := by decide +kernel
theorem dX7_film_70 : decode cX7_film 70 = .ok (.bipush 16, 2) := by decide +kernel
theorem dX7_film_72 : decode cX7_film 72 = .ok (.iload_n 1, 1) := by decide +kernel
theorem dX7_film_73 : decode cX7_film 73 = .ok (.imul, 1) := by decide +kernel
theorem dX7_film_74 : decode cX7_film 74 = .ok (.iload_n 3, 1) := by decide +kernel
theorem dX7_film_75 : decode cX7_film 75 = .ok (.iadd, 1) := by decide +kernel
theorem dX7_film_76 : decode cX7_film 76 = .ok (.iload 6, 2) := by decide +kernel
theorem dX7_film_78 : decode cX7_film 78 = .ok (.iadd, 1) := by decide +kernel
theorem dX7_film_79 : decode cX7_film 79 = .ok (.aload_n 0, 1) := by decide +kernel
theorem dX7_film_80 : decode cX7_film 80 = .ok (.bipush 10, 2) := by decide +kernel
theorem dX7_film_82 : decode cX7_film 82 = .ok (.iload 6, 2) := by decide +kernel
theorem dX7_film_84 : decode cX7_film 84 = .ok (.imul, 1) := by decide +kernel
theorem dX7_film_85 : decode cX7_film 85 = .ok (.bipush 9, 2) := by decide +kernel
theorem dX7_film_87 : decode cX7_film 87 = .ok (.iadd, 1) := by decide +kernel
theorem dX7_film_88 : decode cX7_film 88 = .ok (.invokevirtual 259, 3) := by decide +kernel
theorem dX7_film_91 : decode cX7_film 91 = .ok (.iastore, 1) := by decide +kernel
theorem dX7_film_92 : decode cX7_film 92 = .ok (.iinc 6 1, 3) := by decide +kernel
theorem dX7_film_95 : decode cX7_film 95 = .ok (.goto (-36), 3) := by decide +kernel
theorem dX7_film_98 : decode cX7_film 98 = .ok (.iload 4, 2) := by decide +kernel
theorem dX7_film_100 : decode cX7_film 100 = .ok (.ireturn, 1) := by decide +kernel
theorem dX7_sheet_0 : decode cX7_sheet 0 = .ok (.iload_n 1, 1) := by decide +kernel
theorem dX7_sheet_1 : decode cX7_sheet 1 = .ok (.invokestatic 273, 3) := by decide +kernel
theorem dX7_sheet_4 : decode cX7_sheet 4 = .ok (.ifCond .eq 16, 3) := by decide +kernel
theorem dX7_sheet_7 : decode cX7_sheet 7 = .ok (.iload_n 2, 1) := by decide +kernel
theorem dX7_sheet_8 : decode cX7_sheet 8 = .ok (.invokestatic 276, 3) := by decide +kernel
theorem dX7_sheet_11 : decode cX7_sheet 11 = .ok (.ifCond .eq 9, 3) := by decide +kernel
theorem dX7_sheet_14 : decode cX7_sheet 14 = .ok (.iload_n 3, 1) := by decide +kernel
theorem dX7_sheet_15 : decode cX7_sheet 15 = .ok (.bipush 16, 2) := by decide +kernel
theorem dX7_sheet_17 : decode cX7_sheet 17 = .ok (.if_icmp .le 5, 3) := by decide +kernel
theorem dX7_sheet_20 : decode cX7_sheet 20 = .ok (.iconst (-1), 1) := by decide +kernel
theorem dX7_sheet_21 : decode cX7_sheet 21 = .ok (.ireturn, 1) := by decide +kernel
theorem dX7_sheet_22 : decode cX7_sheet 22 = .ok (.iload_n 3, 1) := by decide +kernel
theorem dX7_sheet_23 : decode cX7_sheet 23 = .ok (.ifCond .ge 6, 3) := by decide +kernel
theorem dX7_sheet_26 : decode cX7_sheet 26 = .ok (.bipush (-14), 2) := by decide +kernel
theorem dX7_sheet_28 : decode cX7_sheet 28 = .ok (.ireturn, 1) := by decide +kernel
theorem dX7_sheet_29 : decode cX7_sheet 29 = .ok (.aload_n 0, 1) := by decide +kernel
theorem dX7_sheet_30 : decode cX7_sheet 30 = .ok (.getfield 85, 3) := by decide +kernel
theorem dX7_sheet_33 : decode cX7_sheet 33 = .ok (.iload_n 1, 1) := by decide +kernel
theorem dX7_sheet_34 : decode cX7_sheet 34 = .ok (.iload_n 2, 1) := by decide +kernel
theorem dX7_sheet_35 : decode cX7_sheet 35 = .ok (.iastore, 1) := by decide +kernel
theorem dX7_sheet_36 : decode cX7_sheet 36 = .ok (.aload_n 0, 1) := by decide +kernel
theorem dX7_sheet_37 : decode cX7_sheet 37 = .ok (.getfield 88, 3) := by decide +kernel
theorem dX7_sheet_40 : decode cX7_sheet 40 = .ok (.iload_n 1, 1) := by decide +kernel
theorem dX7_sheet_41 : decode cX7_sheet 41 = .ok (.iload_n 3, 1) := by decide +kernel
theorem dX7_sheet_42 : decode cX7_sheet 42 = .ok (.iastore, 1) := by decide +kernel
theorem dX7_sheet_43 : decode cX7_sheet 43 = .ok (.iconst 0, 1) := by decide +kernel
theorem dX7_sheet_44 : decode cX7_sheet 44 = .ok (.istore 4, 2) := by decide +kernel
theorem dX7_sheet_46 : decode cX7_sheet 46 = .ok (.iload 4, 2) := by decide +kernel
theorem dX7_sheet_48 : decode cX7_sheet 48 = .ok (.bipush 16, 2) := by decide +kernel
theorem dX7_sheet_50 : decode cX7_sheet 50 = .ok (.if_icmp .ge 22, 3) := by decide +kernel
theorem dX7_sheet_53 : decode cX7_sheet 53 = .ok (.aload_n 0, 1) := by decide +kernel
theorem dX7_sheet_54 : decode cX7_sheet 54 = .ok (.getfield 91, 3) := by decide +kernel
theorem dX7_sheet_57 : decode cX7_sheet 57 = .ok (.bipush 16, 2) := by decide +kernel
theorem dX7_sheet_59 : decode cX7_sheet 59 = .ok (.iload_n 1, 1) := by decide +kernel
theorem dX7_sheet_60 : decode cX7_sheet 60 = .ok (.imul, 1) := by decide +kernel
theorem dX7_sheet_61 : decode cX7_sheet 61 = .ok (.iload 4, 2) := by decide +kernel
theorem dX7_sheet_63 : decode cX7_sheet 63 = .ok (.iadd, 1) := by decide +kernel
theorem dX7_sheet_64 : decode cX7_sheet 64 = .ok (.iconst 0, 1) := by decide +kernel
theorem dX7_sheet_65 : decode cX7_sheet 65 = .ok (.iastore, 1) := by decide +kernel
theorem dX7_sheet_66 : decode cX7_sheet 66 = .ok (.iinc 4 1, 3) := by decide +kernel
theorem dX7_sheet_69 : decode cX7_sheet 69 = .ok (.goto (-23), 3) := by decide +kernel
theorem dX7_sheet_72 : decode cX7_sheet 72 = .ok (.iload_n 3, 1) := by decide +kernel
theorem dX7_sheet_73 : decode cX7_sheet 73 = .ok (.ireturn, 1) := by decide +kernel
theorem dX7_drop_0 : decode cX7_drop 0 = .ok (.iload_n 1, 1) := by decide +kernel
theorem dX7_drop_1 : decode cX7_drop 1 = .ok (.invokestatic 273, 3) := by decide +kernel
theorem dX7_drop_4 : decode cX7_drop 4 = .ok (.ifCond .ne 5, 3) := by decide +kernel
theorem dX7_drop_7 : decode cX7_drop 7 = .ok (.iconst (-1), 1) := by decide +kernel
theorem dX7_drop_8 : decode cX7_drop 8 = .ok (.ireturn, 1) := by decide +kernel
theorem dX7_drop_9 : decode cX7_drop 9 = .ok (.aload_n 0, 1) := by decide +kernel
theorem dX7_drop_10 : decode cX7_drop 10 = .ok (.getfield 85, 3) := by decide +kernel
theorem dX7_drop_13 : decode cX7_drop 13 = .ok (.iload_n 1, 1) := by decide +kernel
theorem dX7_drop_14 : decode cX7_drop 14 = .ok (.iaload, 1) := by decide +kernel
theorem dX7_drop_15 : decode cX7_drop 15 = .ok (.ifCond .ge 6, 3) := by decide +kernel
theorem dX7_drop_18 : decode cX7_drop 18 = .ok (.bipush (-11), 2) := by decide +kernel
theorem dX7_drop_20 : decode cX7_drop 20 = .ok (.ireturn, 1) := by decide +kernel
theorem dX7_drop_21 : decode cX7_drop 21 = .ok (.aload_n 0, 1) := by decide +kernel
theorem dX7_drop_22 : decode cX7_drop 22 = .ok (.getfield 85, 3) := by decide +kernel
theorem dX7_drop_25 : decode cX7_drop 25 = .ok (.iload_n 1, 1) := by decide +kernel
theorem dX7_drop_26 : decode cX7_drop 26 = .ok (.iconst (-1), 1) := by decide +kernel
theorem dX7_drop_27 : decode cX7_drop 27 = .ok (.iastore, 1) := by decide +kernel
theorem dX7_drop_28 : decode cX7_drop 28 = .ok (.aload_n 0, 1) := by decide +kernel
theorem dX7_drop_29 : decode cX7_drop 29 = .ok (.getfield 88, 3) := by decide +kernel
theorem dX7_drop_32 : decode cX7_drop 32 = .ok (.iload_n 1, 1) := by decide +kernel
theorem dX7_drop_33 : decode cX7_drop 33 = .ok (.iaload, 1) := by decide +kernel
theorem dX7_drop_34 : decode cX7_drop 34 = .ok (.ireturn, 1) := by decide +kernel
theorem dX7_item_0 : decode cX7_item 0 = .ok (.iload_n 1, 1) := by decide +kernel
theorem dX7_item_1 : decode cX7_item 1 = .ok (.invokestatic 273, 3) := by decide +kernel
theorem dX7_item_4 : decode cX7_item 4 = .ok (.ifCond .eq 10, 3) := by decide +kernel
theorem dX7_item_7 : decode cX7_item 7 = .ok (.iload_n 2, 1) := by decide +kernel
theorem dX7_item_8 : decode cX7_item 8 = .ok (.invokestatic 276, 3) := by decide +kernel
theorem dX7_item_11 : decode cX7_item 11 = .ok (.ifCond .ne 5, 3) := by decide +kernel
theorem dX7_item_14 : decode cX7_item 14 = .ok (.iconst (-1), 1) := by decide +kernel
theorem dX7_item_15 : decode cX7_item 15 = .ok (.ireturn, 1) := by decide +kernel
theorem dX7_item_16 : decode cX7_item 16 = .ok (.aload_n 0, 1) := by decide +kernel
theorem dX7_item_17 : decode cX7_item 17 = .ok (.iload_n 1, 1) := by decide +kernel
theorem dX7_item_18 : decode cX7_item 18 = .ok (.iload_n 2, 1) := by decide +kernel
theorem dX7_item_19 : decode cX7_item 19 = .ok (.iload_n 3, 1) := by decide +kernel
theorem dX7_item_20 : decode cX7_item 20 = .ok (.iconst 1, 1) := by decide +kernel
theorem dX7_item_21 : decode cX7_item 21 = .ok (.invokevirtual 279, 3) := by decide +kernel
theorem dX7_item_24 : decode cX7_item 24 = .ok (.istore 5, 2) := by decide +kernel
theorem dX7_item_26 : decode cX7_item 26 = .ok (.iload 5, 2) := by decide +kernel
theorem dX7_item_28 : decode cX7_item 28 = .ok (.ifCond .ge 6, 3) := by decide +kernel
theorem dX7_item_31 : decode cX7_item 31 = .ok (.iload 5, 2) := by decide +kernel
theorem dX7_item_33 : decode cX7_item 33 = .ok (.ireturn, 1) := by decide +kernel
theorem dX7_item_34 : decode cX7_item 34 = .ok (.aload_n 0, 1) := by decide +kernel
theorem dX7_item_35 : decode cX7_item 35 = .ok (.getfield 91, 3) := by decide +kernel
theorem dX7_item_38 : decode cX7_item 38 = .ok (.bipush 16, 2) := by decide +kernel
theorem dX7_item_40 : decode cX7_item 40 = .ok (.iload_n 1, 1) := by decide +kernel
theorem dX7_item_41 : decode cX7_item 41 = .ok (.imul, 1) := by decide +kernel
theorem dX7_item_42 : decode cX7_item 42 = .ok (.iload_n 3, 1) := by decide +kernel
theorem dX7_item_43 : decode cX7_item 43 = .ok (.iadd, 1) := by decide +kernel
theorem dX7_item_44 : decode cX7_item 44 = .ok (.iload_n 2, 1) := by decide +kernel
theorem dX7_item_45 : decode cX7_item 45 = .ok (.ifCond .ne 9, 3) := by decide +kernel
theorem dX7_item_48 : decode cX7_item 48 = .ok (.iload 4, 2) := by decide +kernel
theorem dX7_item_50 : decode cX7_item 50 = .ok (.i2b, 1) := by decide +kernel
theorem dX7_item_51 : decode cX7_item 51 = .ok (.goto 16, 3) := by decide +kernel
theorem dX7_item_54 : decode cX7_item 54 = .ok (.iload_n 2, 1) := by decide +kernel
theorem dX7_item_55 : decode cX7_item 55 = .ok (.iconst 1, 1) := by decide +kernel
theorem dX7_item_56 : decode cX7_item 56 = .ok (.if_icmp .ne 9, 3) := by decide +kernel
theorem dX7_item_59 : decode cX7_item 59 = .ok (.iload 4, 2) := by decide +kernel
theorem dX7_item_61 : decode cX7_item 61 = .ok (.i2s, 1) := by decide +kernel
theorem dX7_item_62 : decode cX7_item 62 = .ok (.goto 5, 3) := by decide +kernel
theorem dX7_item_65 : decode cX7_item 65 = .ok (.iload 4, 2) := by decide +kernel
theorem dX7_item_67 : decode cX7_item 67 = .ok (.iastore, 1) := by decide +kernel
theorem dX7_item_68 : decode cX7_item 68 = .ok (.iconst 1, 1) := by decide +kernel
theorem dX7_item_69 : decode cX7_item 69 = .ok (.ireturn, 1) := by decide +kernel
theorem dX7_copy_0 : decode cX7_copy 0 = .ok (.iload_n 1, 1) := by decide +kernel
theorem dX7_copy_1 : decode cX7_copy 1 = .ok (.invokestatic 273, 3) := by decide +kernel
theorem dX7_copy_4 : decode cX7_copy 4 = .ok (.ifCond .eq 10, 3) := by decide +kernel
theorem dX7_copy_7 : decode cX7_copy 7 = .ok (.iload_n 3, 1) := by decide +kernel
theorem dX7_copy_8 : decode cX7_copy 8 = .ok (.invokestatic 273, 3) := by decide +kernel
theorem dX7_copy_11 : decode cX7_copy 11 = .ok (.ifCond .ne 5, 3) := by decide +kernel
theorem dX7_copy_14 : decode cX7_copy 14 = .ok (.iconst (-1), 1) := by decide +kernel
theorem dX7_copy_15 : decode cX7_copy 15 = .ok (.ireturn, 1) := by decide +kernel
theorem dX7_copy_16 : decode cX7_copy 16 = .ok (.aload_n 0, 1) := by decide +kernel
theorem dX7_copy_17 : decode cX7_copy 17 = .ok (.getfield 85, 3) := by decide +kernel
theorem dX7_copy_20 : decode cX7_copy 20 = .ok (.iload_n 1, 1) := by decide +kernel
theorem dX7_copy_21 : decode cX7_copy 21 = .ok (.iaload, 1) := by decide +kernel
theorem dX7_copy_22 : decode cX7_copy 22 = .ok (.ifCond .lt 12, 3) := by decide +kernel
theorem dX7_copy_25 : decode cX7_copy 25 = .ok (.aload_n 0, 1) := by decide +kernel
theorem dX7_copy_26 : decode cX7_copy 26 = .ok (.getfield 85, 3) := by decide +kernel
theorem dX7_copy_29 : decode cX7_copy 29 = .ok (.iload_n 3, 1) := by decide +kernel
theorem dX7_copy_30 : decode cX7_copy 30 = .ok (.iaload, 1) := by decide +kernel
theorem dX7_copy_31 : decode cX7_copy 31 = .ok (.ifCond .ge 6, 3) := by decide +kernel
theorem dX7_copy_34 : decode cX7_copy 34 = .ok (.bipush (-11), 2) := by decide +kernel
theorem dX7_copy_36 : decode cX7_copy 36 = .ok (.ireturn, 1) := by decide +kernel
theorem dX7_copy_37 : decode cX7_copy 37 = .ok (.aload_n 0, 1) := by decide +kernel
theorem dX7_copy_38 : decode cX7_copy 38 = .ok (.getfield 85, 3) := by decide +kernel
theorem dX7_copy_41 : decode cX7_copy 41 = .ok (.iload_n 1, 1) := by decide +kernel
theorem dX7_copy_42 : decode cX7_copy 42 = .ok (.iaload, 1) := by decide +kernel
theorem dX7_copy_43 : decode cX7_copy 43 = .ok (.aload_n 0, 1) := by decide +kernel
theorem dX7_copy_44 : decode cX7_copy 44 = .ok (.getfield 85, 3) := by decide +kernel
theorem dX7_copy_47 : decode cX7_copy 47 = .ok (.iload_n 3, 1) := by decide +kernel
theorem dX7_copy_48 : decode cX7_copy 48 = .ok (.iaload, 1) := by decide +kernel
theorem dX7_copy_49 : decode cX7_copy 49 = .ok (.if_icmp .eq 6, 3) := by decide +kernel
theorem dX7_copy_52 : decode cX7_copy 52 = .ok (.bipush (-12), 2) := by decide +kernel
theorem dX7_copy_54 : decode cX7_copy 54 = .ok (.ireturn, 1) := by decide +kernel
theorem dX7_copy_55 : decode cX7_copy 55 = .ok (.iload 5, 2) := by decide +kernel
theorem dX7_copy_57 : decode cX7_copy 57 = .ok (.ifCond .lt 38, 3) := by decide +kernel
theorem dX7_copy_60 : decode cX7_copy 60 = .ok (.aload_n 0, 1) := by decide +kernel
theorem dX7_copy_61 : decode cX7_copy 61 = .ok (.iload_n 1, 1) := by decide +kernel
theorem dX7_copy_62 : decode cX7_copy 62 = .ok (.aload_n 0, 1) := by decide +kernel
theorem dX7_copy_63 : decode cX7_copy 63 = .ok (.getfield 85, 3) := by decide +kernel
theorem dX7_copy_66 : decode cX7_copy 66 = .ok (.iload_n 1, 1) := by decide +kernel
theorem dX7_copy_67 : decode cX7_copy 67 = .ok (.iaload, 1) := by decide +kernel
theorem dX7_copy_68 : decode cX7_copy 68 = .ok (.iload_n 2, 1) := by decide +kernel
theorem dX7_copy_69 : decode cX7_copy 69 = .ok (.iload 5, 2) := by decide +kernel
theorem dX7_copy_71 : decode cX7_copy 71 = .ok (.invokevirtual 279, 3) := by decide +kernel
theorem dX7_copy_74 : decode cX7_copy 74 = .ok (.ifCond .lt 21, 3) := by decide +kernel
theorem dX7_copy_77 : decode cX7_copy 77 = .ok (.aload_n 0, 1) := by decide +kernel
theorem dX7_copy_78 : decode cX7_copy 78 = .ok (.iload_n 3, 1) := by decide +kernel
theorem dX7_copy_79 : decode cX7_copy 79 = .ok (.aload_n 0, 1) := by decide +kernel
theorem dX7_copy_80 : decode cX7_copy 80 = .ok (.getfield 85, 3) := by decide +kernel
theorem dX7_copy_83 : decode cX7_copy 83 = .ok (.iload_n 3, 1) := by decide +kernel
theorem dX7_copy_84 : decode cX7_copy 84 = .ok (.iaload, 1) := by decide +kernel
theorem dX7_copy_85 : decode cX7_copy 85 = .ok (.iload 4, 2) := by decide +kernel
theorem dX7_copy_87 : decode cX7_copy 87 = .ok (.iload 5, 2) := by decide +kernel
theorem dX7_copy_89 : decode cX7_copy 89 = .ok (.invokevirtual 279, 3) := by decide +kernel
theorem dX7_copy_92 : decode cX7_copy 92 = .ok (.ifCond .ge 6, 3) := by decide +kernel
theorem dX7_copy_95 : decode cX7_copy 95 = .ok (.bipush (-13), 2) := by decide +kernel
theorem dX7_copy_97 : decode cX7_copy 97 = .ok (.ireturn, 1) := by decide +kernel
theorem dX7_copy_98 : decode cX7_copy 98 = .ok (.iconst 0, 1) := by decide +kernel
theorem dX7_copy_99 : decode cX7_copy 99 = .ok (.istore 6, 2) := by decide +kernel
theorem dX7_copy_101 : decode cX7_copy 101 = .ok (.iload 6, 2) := by decide +kernel
theorem dX7_copy_103 : decode cX7_copy 103 = .ok (.iload 5, 2) := by decide +kernel
theorem dX7_copy_105 : decode cX7_copy 105 = .ok (.if_icmp .ge 30, 3) := by decide +kernel
theorem dX7_copy_108 : decode cX7_copy 108 = .ok (.aload_n 0, 1) := by decide +kernel
theorem dX7_copy_109 : decode cX7_copy 109 = .ok (.getfield 94, 3) := by decide +kernel
theorem dX7_copy_112 : decode cX7_copy 112 = .ok (.iload 6, 2) := by decide +kernel
theorem dX7_copy_114 : decode cX7_copy 114 = .ok (.aload_n 0, 1) := by decide +kernel
theorem dX7_copy_115 : decode cX7_copy 115 = .ok (.getfield 91, 3) := by decide +kernel
theorem dX7_copy_118 : decode cX7_copy 118 = .ok (.bipush 16, 2) := by decide +kernel
theorem dX7_copy_120 : decode cX7_copy 120 = .ok (.iload_n 1, 1) := by decide +kernel
theorem dX7_copy_121 : decode cX7_copy 121 = .ok (.imul, 1) := by decide +kernel
theorem dX7_copy_122 : decode cX7_copy 122 = .ok (.iload_n 2, 1) := by decide +kernel
theorem dX7_copy_123 : decode cX7_copy 123 = .ok (.iadd, 1) := by decide +kernel
theorem dX7_copy_124 : decode cX7_copy 124 = .ok (.iload 6, 2) := by decide +kernel
theorem dX7_copy_126 : decode cX7_copy 126 = .ok (.iadd, 1) := by decide +kernel
theorem dX7_copy_127 : decode cX7_copy 127 = .ok (.iaload, 1) := by decide +kernel
theorem dX7_copy_128 : decode cX7_copy 128 = .ok (.iastore, 1) := by decide +kernel
theorem dX7_copy_129 : decode cX7_copy 129 = .ok (.iinc 6 1, 3) := by decide +kernel
theorem dX7_copy_132 : decode cX7_copy 132 = .ok (.goto (-31), 3) := by decide +kernel
theorem dX7_copy_135 : decode cX7_copy 135 = .ok (.iconst 0, 1) := by decide +kernel
theorem dX7_copy_136 : decode cX7_copy 136 = .ok (.istore 6, 2) := by decide +kernel
theorem dX7_copy_138 : decode cX7_copy 138 = .ok (.iload 6, 2) := by decide +kernel
theorem dX7_copy_140 : decode cX7_copy 140 = .ok (.iload 5, 2) := by decide +kernel
theorem dX7_copy_142 : decode cX7_copy 142 = .ok (.if_icmp .ge 31, 3) := by decide +kernel
theorem dX7_copy_145 : decode cX7_copy 145 = .ok (.aload_n 0, 1) := by decide +kernel
theorem dX7_copy_146 : decode cX7_copy 146 = .ok (.getfield 91, 3) := by decide +kernel
theorem dX7_copy_149 : decode cX7_copy 149 = .ok (.bipush 16, 2) := by decide +kernel
theorem dX7_copy_151 : decode cX7_copy 151 = .ok (.iload_n 3, 1) := by decide +kernel
theorem dX7_copy_152 : decode cX7_copy 152 = .ok (.imul, 1) := by decide +kernel
theorem dX7_copy_153 : decode cX7_copy 153 = .ok (.iload 4, 2) := by decide +kernel
theorem dX7_copy_155 : decode cX7_copy 155 = .ok (.iadd, 1) := by decide +kernel
theorem dX7_copy_156 : decode cX7_copy 156 = .ok (.iload 6, 2) := by decide +kernel
theorem dX7_copy_158 : decode cX7_copy 158 = .ok (.iadd, 1) := by decide +kernel
theorem dX7_copy_159 : decode cX7_copy 159 = .ok (.aload_n 0, 1) := by decide +kernel
theorem dX7_copy_160 : decode cX7_copy 160 = .ok (.getfield 94, 3) := by decide +kernel
theorem dX7_copy_163 : decode cX7_copy 163 = .ok (.iload 6, 2) := by decide +kernel
theorem dX7_copy_165 : decode cX7_copy 165 = .ok (.iaload, 1) := by decide +kernel
theorem dX7_copy_166 : decode cX7_copy 166 = .ok (.iastore, 1) := by decide +kernel
theorem dX7_copy_167 : decode cX7_copy 167 = .ok (.iinc 6 1, 3) := by decide +kernel
theorem dX7_copy_170 : decode cX7_copy 170 = .ok (.goto (-32), 3) := by decide +kernel
theorem dX7_copy_173 : decode cX7_copy 173 = .ok (.iload 5, 2) := by decide +kernel
theorem dX7_copy_175 : decode cX7_copy 175 = .ok (.ireturn, 1) := by decide +kernel
