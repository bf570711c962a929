theorem dX11_init_0 : decode cX11_init 0 = .ok (.aload_n 0, 1) := by decide +kernel
theorem dX11_init_1 : decode cX11_init 1 = .ok (.invokespecial 1, 3) := by decide +kernel
theorem dX11_init_4 : decode cX11_init 4 = .ok (.aload_n 0, 1) := by decide +kernel
theorem dX11_init_5 : decode cX11_init 5 = .ok (.sipush 3000, 3) := by decide +kernel
theorem dX11_init_8 : decode cX11_init 8 = .ok (.newarray .byte, 2) := by decide +kernel
theorem dX11_init_10 : decode cX11_init 10 = .ok (.putfield 7, 3) := by decide +kernel
theorem dX11_init_13 : decode cX11_init 13 = .ok (.aload_n 0, 1) := by decide +kernel
theorem dX11_init_14 : decode cX11_init 14 = .ok (.iconst (-1), 1) := by decide +kernel
theorem dX11_init_15 : decode cX11_init 15 = .ok (.putfield 13, 3) := by decide +kernel
theorem dX11_init_18 : decode cX11_init 18 = .ok (.aload_n 0, 1) := by decide +kernel
theorem dX11_init_19 : decode cX11_init 19 = .ok (.sipush 3900, 3) := by decide +kernel
theorem dX11_init_22 : decode cX11_init 22 = .ok (.newarray .int, 2) := by decide +kernel
theorem dX11_init_24 : decode cX11_init 24 = .ok (.putfield 17, 3) := by decide +kernel
theorem dX11_init_27 : decode cX11_init 27 = .ok (.aload_n 0, 1) := by decide +kernel
theorem dX11_init_28 : decode cX11_init 28 = .ok (.sipush 3900, 3) := by decide +kernel
theorem dX11_init_31 : decode cX11_init 31 = .ok (.newarray .int, 2) := by decide +kernel
theorem dX11_init_33 : decode cX11_init 33 = .ok (.putfield 21, 3) := by decide +kernel
theorem dX11_init_36 : decode cX11_init 36 = .ok (.aload_n 0, 1) := by decide +kernel
theorem dX11_init_37 : decode cX11_init 37 = .ok (.iconst 3, 1) := by decide +kernel
theorem dX11_init_38 : decode cX11_init 38 = .ok (.newarray .int, 2) := by decide +kernel
theorem dX11_init_40 : decode cX11_init 40 = .ok (.putfield 24, 3) := by decide +kernel
theorem dX11_init_43 : decode cX11_init 43 = .ok (.aload_n 0, 1) := by decide +kernel
theorem dX11_init_44 : decode cX11_init 44 = .ok (.iconst 3, 1) := by decide +kernel
theorem dX11_init_45 : decode cX11_init 45 = .ok (.newarray .int, 2) := by decide +kernel
theorem dX11_init_47 : decode cX11_init 47 = .ok (.putfield 27, 3) := by decide +kernel
theorem dX11_init_50 : decode cX11_init 50 = .ok (.aload_n 0, 1) := by decide +kernel
theorem dX11_init_51 : decode cX11_init 51 = .ok (.bipush 60, 2) := by decide +kernel
theorem dX11_init_53 : decode cX11_init 53 = .ok (.newarray .boolean, 2) := by decide +kernel
theorem dX11_init_55 : decode cX11_init 55 = .ok (.putfield 30, 3) := by decide +kernel
theorem dX11_init_58 : decode cX11_init 58 = .ok (.aload_n 0, 1) := by decide +kernel
theorem dX11_init_59 : decode cX11_init 59 = .ok (.bipush 60, 2) := by decide +kernel
theorem dX11_init_61 : decode cX11_init 61 = .ok (.newarray .int, 2) := by decide +kernel
theorem dX11_init_63 : decode cX11_init 63 = .ok (.putfield 34, 3) := by decide +kernel
theorem dX11_init_66 : decode cX11_init 66 = .ok (.aload_n 0, 1) := by decide +kernel
theorem dX11_init_67 : decode cX11_init 67 = .ok (.bipush 60, 2) := by decide +kernel
theorem dX11_init_69 : decode cX11_init 69 = .ok (.newarray .int, 2) := by decide +kernel
theorem dX11_init_71 : decode cX11_init 71 = .ok (.putfield 37, 3) := by decide +kernel
theorem dX11_init_74 : decode cX11_init 74 = .ok (.aload_n 0, 1) := by decide +kernel
theorem dX11_init_75 : decode cX11_init 75 = .ok (.bipush 60, 2) := by decide +kernel
theorem dX11_init_77 : decode cX11_init 77 = .ok (.newarray .int, 2) := by decide +kernel
theorem dX11_init_79 : decode cX11_init 79 = .ok (.putfield 40, 3) := by decide +kernel
theorem dX11_init_82 : decode cX11_init 82 = .ok (.aload_n 0, 1) := by decide +kernel
theorem dX11_init_83 : decode cX11_init 83 = .ok (.bipush 60, 2) := by decide +kernel
theorem dX11_init_85 : decode cX11_init 85 = .ok (.newarray .int, 2) := by decide +kernel
theorem dX11_init_87 : decode cX11_init 87 = .ok (.putfield 43, 3) := by decide +kernel
theorem dX11_init_90 : decode cX11_init 90 = .ok (.aload_n 0, 1) := by decide +kernel
theorem dX11_init_91 : decode cX11_init 91 = .ok (.bipush 8, 2) := by decide +kernel
theorem dX11_init_93 : decode cX11_init 93 = .ok (.newarray .long, 2) := by decide +kernel
theorem dX11_init_95 : decode cX11_init 95 = .ok (.putfield 46, 3) := by decide +kernel
theorem dX11_init_98 : decode cX11_init 98 = .ok (.aload_n 0, 1) := by decide +kernel
theorem dX11_init_99 : decode cX11_init 99 = .ok (.sipush 400, 3) := by decide +kernel
theorem dX11_init_102 : decode cX11_init 102 = .ok (.newarray .int, 2) := by decide +kernel
theorem dX11_init_104 : decode cX11_init 104 = .ok (.putfield 50, 3) := by decide +kernel
theorem dX11_init_107 : decode cX11_init 107 = .ok (.aload_n 0, 1) := by decide +kernel
theorem dX11_init_108 : decode cX11_init 108 = .ok (.sipush 400, 3) := by decide +kernel
theorem dX11_init_111 : decode cX11_init 111 = .ok (.newarray .int, 2) := by decide +kernel
theorem dX11_init_113 : decode cX11_init 113 = .ok (.putfield 53, 3) := by decide +kernel
theorem dX11_init_116 : decode cX11_init 116 = .ok (.aload_n 0, 1) := by decide +kernel
theorem dX11_init_117 : decode cX11_init 117 = .ok (.sipush 400, 3) := by decide +kernel
theorem dX11_init_120 : decode cX11_init 120 = .ok (.newarray .int, 2) := by decide +kernel
theorem dX11_init_122 : decode cX11_init 122 = .ok (.putfield 56, 3) := by decide +kernel
theorem dX11_init_125 : decode cX11_init 125 = .ok (.aload_n 0, 1) := by decide +kernel
theorem dX11_init_126 : decode cX11_init 126 = .ok (.sipush 400, 3) := by decide +kernel
theorem dX11_init_129 : decode cX11_init 129 = .ok (.newarray .int, 2) := by decide +kernel
theorem dX11_init_131 : decode cX11_init 131 = .ok (.putfield 59, 3) := by decide +kernel
theorem dX11_init_134 : decode cX11_init 134 = .ok (.aload_n 0, 1) := by decide +kernel
theorem dX11_init_135 : decode cX11_init 135 = .ok (.bipush 12, 2) := by decide +kernel
theorem dX11_init_137 : decode cX11_init 137 = .ok (.newarray .int, 2) := by decide +kernel
theorem dX11_init_139 : decode cX11_init 139 = .ok (.putfield 62, 3) := by decide +kernel
theorem dX11_init_142 : decode cX11_init 142 = .ok (.aload_n 0, 1) := by decide +kernel
theorem dX11_init_143 : decode cX11_init 143 = .ok (.bipush 12, 2) := by decide +kernel
theorem dX11_init_145 : decode cX11_init 145 = .ok (.newarray .boolean, 2) := by decide +kernel
theorem dX11_init_147 : decode cX11_init 147 = .ok (.putfield 65, 3) := by decide +kernel
theorem dX11_init_150 : decode cX11_init 150 = .ok (.aload_n 0, 1) := by decide +kernel
theorem dX11_init_151 : decode cX11_init 151 = .ok (.bipush 12, 2) := by decide +kernel
theorem dX11_init_153 : decode cX11_init 153 = .ok (.newarray .int, 2) := by decide +kernel
theorem dX11_init_155 : decode cX11_init 155 = .ok (.putfield 68, 3) := by decide +kernel
theorem dX11_init_158 : decode cX11_init 158 = .ok (.aload_n 0, 1) := by decide +kernel
theorem dX11_init_159 : decode cX11_init 159 = .ok (.bipush 12, 2) := by decide +kernel
theorem dX11_init_161 : decode cX11_init 161 = .ok (.newarray .int, 2) := by decide +kernel
theorem dX11_init_163 : decode cX11_init 163 = .ok (.putfield 71, 3) := by decide +kernel
theorem dX11_init_166 : decode cX11_init 166 = .ok (.aload_n 0, 1) := by decide +kernel
theorem dX11_init_167 : decode cX11_init 167 = .ok (.bipush 12, 2) := by decide +kernel
theorem dX11_init_169 : decode cX11_init 169 = .ok (.newarray .int, 2) := by decide +kernel
theorem dX11_init_171 : decode cX11_init 171 = .ok (.putfield 74, 3) := by decide +kernel
theorem dX11_init_174 : decode cX11_init 174 = .ok (.aload_n 0, 1) := by decide +kernel
theorem dX11_init_175 : decode cX11_init 175 = .ok (.bipush 12, 2) := by decide +kernel
theorem dX11_init_177 : decode cX11_init 177 = .ok (.newarray .int, 2) := by decide +kernel
theorem dX11_init_179 : decode cX11_init 179 = .ok (.putfield 77, 3) := by decide +kernel
theorem dX11_init_182 : decode cX11_init 182 = .ok (.aload_n 0, 1) := by decide +kernel
theorem dX11_init_183 : decode cX11_init 183 = .ok (.bipush 12, 2) := by decide +kernel
theorem dX11_init_185 : decode cX11_init 185 = .ok (.newarray .int, 2) := by decide +kernel
theorem dX11_init_187 : decode cX11_init 187 = .ok (.putfield 80, 3) := by decide +kernel
theorem dX11_init_190 : decode cX11_init 190 = .ok (.aload_n 0, 1) := by decide +kernel
theorem dX11_init_191 : decode cX11_init 191 = .ok (.bipush 40, 2) := by decide +kernel
theorem dX11_init_193 : decode cX11_init 193 = .ok (.newarray .int, 2) := by decide +kernel
theorem dX11_init_195 : decode cX11_init 195 = .ok (.putfield 83, 3) := by decide +kernel
theorem dX11_init_198 : decode cX11_init 198 = .ok (.aload_n 0, 1) := by decide +kernel
theorem dX11_init_199 : decode cX11_init 199 = .ok (.bipush 40, 2) := by decide +kernel
theorem dX11_init_201 : decode cX11_init 201 = .ok (.newarray .int, 2) := by decide +kernel
theorem dX11_init_203 : decode cX11_init 203 = .ok (.putfield 86, 3) := by decide +kernel
theorem dX11_init_206 : decode cX11_init 206 = .ok (.aload_n 0, 1) := by decide +kernel
theorem dX11_init_207 : decode cX11_init 207 = .ok (.sipush 384, 3) := by decide +kernel
theorem dX11_init_210 : decode cX11_init 210 = .ok (.newarray .int, 2) := by decide +kernel
theorem dX11_init_212 : decode cX11_init 212 = .ok (.putfield 89, 3) := by decide +kernel
theorem dX11_init_215 : decode cX11_init 215 = .ok (.aload_n 0, 1) := by decide +kernel
theorem dX11_init_216 : decode cX11_init 216 = .ok (.sipush 700, 3) := by decide +kernel
theorem dX11_init_219 : decode cX11_init 219 = .ok (.newarray .int, 2) := by decide +kernel
theorem dX11_init_221 : decode cX11_init 221 = .ok (.putfield 92, 3) := by decide +kernel
theorem dX11_init_224 : decode cX11_init 224 = .ok (.aload_n 0, 1) := by decide +kernel
theorem dX11_init_225 : decode cX11_init 225 = .ok (.sipush 144, 3) := by decide +kernel
theorem dX11_init_228 : decode cX11_init 228 = .ok (.newarray .int, 2) := by decide +kernel
theorem dX11_init_230 : decode cX11_init 230 = .ok (.putfield 95, 3) := by decide +kernel
theorem dX11_init_233 : decode cX11_init 233 = .ok (.aload_n 0, 1) := by decide +kernel
theorem dX11_init_234 : decode cX11_init 234 = .ok (.bipush 12, 2) := by decide +kernel
theorem dX11_init_236 : decode cX11_init 236 = .ok (.newarray .boolean, 2) := by decide +kernel
theorem dX11_init_238 : decode cX11_init 238 = .ok (.putfield 98, 3) := by decide +kernel
theorem dX11_init_241 : decode cX11_init 241 = .ok (.aload_n 0, 1) := by decide +kernel
theorem dX11_init_242 : decode cX11_init 242 = .ok (.bipush 12, 2) := by decide +kernel
theorem dX11_init_244 : decode cX11_init 244 = .ok (.newarray .boolean, 2) := by decide +kernel
theorem dX11_init_246 : decode cX11_init 246 = .ok (.putfield 101, 3) := by decide +kernel
theorem dX11_init_249 : decode cX11_init 249 = .ok (.aload_n 0, 1) := by decide +kernel
theorem dX11_init_250 : decode cX11_init 250 = .ok (.bipush 12, 2) := by decide +kernel
theorem dX11_init_252 : decode cX11_init 252 = .ok (.newarray .int, 2) := by decide +kernel
theorem dX11_init_254 : decode cX11_init 254 = .ok (.putfield 104, 3) := by decide +kernel
theorem dX11_init_257 : decode cX11_init 257 = .ok (.aload_n 0, 1) := by decide +kernel
theorem dX11_init_258 : decode cX11_init 258 = .ok (.ldc 107, 2) := by decide +kernel
theorem dX11_init_260 : decode cX11_init 260 = .ok (.newarray .int, 2) := by decide +kernel
theorem dX11_init_262 : decode cX11_init 262 = .ok (.putfield 108, 3) := by decide +kernel
theorem dX11_init_265 : decode cX11_init 265 = .ok (.aload_n 0, 1) := by decide +kernel
theorem dX11_init_266 : decode cX11_init 266 = .ok (.bipush 12, 2) := by decide +kernel
theorem dX11_init_268 : decode cX11_init 268 = .ok (.newarray .int, 2) := by decide +kernel
theorem dX11_init_270 : decode cX11_init 270 = .ok (.putfield 111, 3) := by decide +kernel
theorem dX11_init_273 : decode cX11_init 273 = .ok (.aload_n 0, 1) := by decide +kernel
theorem dX11_init_274 : decode cX11_init 274 = .ok (.bipush 12, 2) := by decide +kernel
theorem dX11_init_276 : decode cX11_init 276 = .ok (.newarray .int, 2) := by decide +kernel
theorem dX11_init_278 : decode cX11_init 278 = .ok (.putfield 114, 3) := by decide +kernel
theorem dX11_init_281 : decode cX11_init 281 = .ok (.iconst 0, 1) := by decide +kernel
theorem dX11_init_282 : decode cX11_init 282 = .ok (.istore_n 1, 1) := by decide +kernel
theorem dX11_init_283 : decode cX11_init 283 = .ok (.iload_n 1, 1) := by decide +kernel
theorem dX11_init_284 : decode cX11_init 284 = .ok (.bipush 12, 2) := by decide +kernel
theorem dX11_init_286 : decode cX11_init 286 = .ok (.if_icmp .ge 23, 3) := by decide +kernel
theorem dX11_init_289 : decode cX11_init 289 = .ok (.aload_n 0, 1) := by decide +kernel
theorem dX11_init_290 : decode cX11_init 290 = .ok (.getfield 62, 3) := by decide +kernel
theorem dX11_init_293 : decode cX11_init 293 = .ok (.iload_n 1, 1) := by decide +kernel
theorem dX11_init_294 : decode cX11_init 294 = .ok (.iconst (-1), 1) := by decide +kernel
theorem dX11_init_295 : decode cX11_init 295 = .ok (.iastore, 1) := by decide +kernel
theorem dX11_init_296 : decode cX11_init 296 = .ok (.aload_n 0, 1) := by decide +kernel
theorem dX11_init_297 : decode cX11_init 297 = .ok (.getfield 77, 3) := by decide +kernel
theorem dX11_init_300 : decode cX11_init 300 = .ok (.iload_n 1, 1) := by decide +kernel
theorem dX11_init_301 : decode cX11_init 301 = .ok (.iconst (-1), 1) := by decide +kernel
theorem dX11_init_302 : decode cX11_init 302 = .ok (.iastore, 1) := by decide +kernel
theorem dX11_init_303 : decode cX11_init 303 = .ok (.iinc 1 1, 3) := by decide +kernel
theorem dX11_init_306 : decode cX11_init 306 = .ok (.goto (-23), 3) := by decide +kernel
theorem dX11_init_309 : decode cX11_init 309 = .ok (.return_, 1) := by decide +kernel
theorem dX11_feed_0 : decode cX11_feed 0 = .ok (.aload_n 0, 1) := by decide +kernel
theorem dX11_feed_1 : decode cX11_feed 1 = .ok (.getfield 117, 3) := by decide +kernel
theorem dX11_feed_4 : decode cX11_feed 4 = .ok (.bipush 20, 2) := by decide +kernel
theorem dX11_feed_6 : decode cX11_feed 6 = .ok (.iadd, 1) := by decide +kernel
theorem dX11_feed_7 : decode cX11_feed 7 = .ok (.sipush 3000, 3) := by decide +kernel
theorem dX11_feed_10 : decode cX11_feed 10 = .ok (.if_icmp .le 5, 3) := by decide +kernel
theorem dX11_feed_13 : decode cX11_feed 13 = .ok (.iconst (-1), 1) := by decide +kernel
theorem dX11_feed_14 : decode cX11_feed 14 = .ok (.ireturn, 1) := by decide +kernel
theorem dX11_feed_15 : decode cX11_feed 15 = .ok (.aload_n 0, 1) := by decide +kernel
theorem dX11_feed_16 : decode cX11_feed 16 = .ok (.iload_n 1, 1) := by decide +kernel
theorem dX11_feed_17 : decode cX11_feed 17 = .ok (.invokevirtual 120, 3) := by decide +kernel
theorem dX11_feed_20 : decode cX11_feed 20 = .ok (.aload_n 0, 1) := by decide +kernel
theorem dX11_feed_21 : decode cX11_feed 21 = .ok (.iload_n 2, 1) := by decide +kernel
theorem dX11_feed_22 : decode cX11_feed 22 = .ok (.invokevirtual 120, 3) := by decide +kernel
theorem dX11_feed_25 : decode cX11_feed 25 = .ok (.aload_n 0, 1) := by decide +kernel
theorem dX11_feed_26 : decode cX11_feed 26 = .ok (.iload_n 3, 1) := by decide +kernel
theorem dX11_feed_27 : decode cX11_feed 27 = .ok (.invokevirtual 120, 3) := by decide +kernel
theorem dX11_feed_30 : decode cX11_feed 30 = .ok (.aload_n 0, 1) := by decide +kernel
theorem dX11_feed_31 : decode cX11_feed 31 = .ok (.iload 4, 2) := by decide +kernel
theorem dX11_feed_33 : decode cX11_feed 33 = .ok (.invokevirtual 120, 3) := by decide +kernel
theorem dX11_feed_36 : decode cX11_feed 36 = .ok (.aload_n 0, 1) := by decide +kernel
theorem dX11_feed_37 : decode cX11_feed 37 = .ok (.iload 5, 2) := by decide +kernel
theorem dX11_feed_39 : decode cX11_feed 39 = .ok (.invokevirtual 120, 3) := by decide +kernel
theorem dX11_feed_42 : decode cX11_feed 42 = .ok (.aload_n 0, 1) := by decide +kernel
theorem dX11_feed_43 : decode cX11_feed 43 = .ok (.getfield 117, 3) := by decide +kernel
theorem dX11_feed_46 : decode cX11_feed 46 = .ok (.ireturn, 1) := by decide +kernel
theorem dX11_byteRow_0 : decode cX11_byteRow 0 = .ok (.iconst 3, 1) := by decide +kernel
theorem dX11_byteRow_1 : decode cX11_byteRow 1 = .ok (.istore_n 2, 1) := by decide +kernel
theorem dX11_byteRow_2 : decode cX11_byteRow 2 = .ok (.iload_n 2, 1) := by decide +kernel
theorem dX11_byteRow_3 : decode cX11_byteRow 3 = .ok (.ifCond .lt 35, 3) := by decide +kernel
theorem dX11_byteRow_6 : decode cX11_byteRow 6 = .ok (.aload_n 0, 1) := by decide +kernel
theorem dX11_byteRow_7 : decode cX11_byteRow 7 = .ok (.getfield 7, 3) := by decide +kernel
theorem dX11_byteRow_10 : decode cX11_byteRow 10 = .ok (.aload_n 0, 1) := by decide +kernel
theorem dX11_byteRow_11 : decode cX11_byteRow 11 = .ok (.getfield 117, 3) := by decide +kernel
theorem dX11_byteRow_14 : decode cX11_byteRow 14 = .ok (.iload_n 1, 1) := by decide +kernel
theorem dX11_byteRow_15 : decode cX11_byteRow 15 = .ok (.bipush 8, 2) := by decide +kernel
theorem dX11_byteRow_17 : decode cX11_byteRow 17 = .ok (.iload_n 2, 1) := by decide +kernel
theorem dX11_byteRow_18 : decode cX11_byteRow 18 = .ok (.imul, 1) := by decide +kernel
theorem dX11_byteRow_19 : decode cX11_byteRow 19 = .ok (.iushr, 1) := by decide +kernel
theorem dX11_byteRow_20 : decode cX11_byteRow 20 = .ok (.i2b, 1) := by decide +kernel
theorem dX11_byteRow_21 : decode cX11_byteRow 21 = .ok (.bastore, 1) := by decide +kernel
theorem dX11_byteRow_22 : decode cX11_byteRow 22 = .ok (.aload_n 0, 1) := by decide +kernel
theorem dX11_byteRow_23 : decode cX11_byteRow 23 = .ok (.dup, 1) := by decide +kernel
theorem dX11_byteRow_24 : decode cX11_byteRow 24 = .ok (.getfield 117, 3) := by decide +kernel
theorem dX11_byteRow_27 : decode cX11_byteRow 27 = .ok (.iconst 1, 1) := by decide +kernel
theorem dX11_byteRow_28 : decode cX11_byteRow 28 = .ok (.iadd, 1) := by decide +kernel
theorem dX11_byteRow_29 : decode cX11_byteRow 29 = .ok (.putfield 117, 3) := by decide +kernel
theorem dX11_byteRow_32 : decode cX11_byteRow 32 = .ok (.iinc 2 (-1), 3) := by decide +kernel
theorem dX11_byteRow_35 : decode cX11_byteRow 35 = .ok (.goto (-33), 3) := by decide +kernel
theorem dX11_byteRow_38 : decode cX11_byteRow 38 = .ok (.return_, 1) := by decide +kernel
theorem dX11_back_0 : decode cX11_back 0 = .ok (.iload_n 1, 1) := by decide +kernel
theorem dX11_back_1 : decode cX11_back 1 = .ok (.ifCond .lt 11, 3) := by decide +kernel
theorem dX11_back_4 : decode cX11_back 4 = .ok (.iload_n 1, 1) := by decide +kernel
theorem dX11_back_5 : decode cX11_back 5 = .ok (.aload_n 0, 1) := by decide +kernel
theorem dX11_back_6 : decode cX11_back 6 = .ok (.getfield 117, 3) := by decide +kernel
theorem dX11_back_9 : decode cX11_back 9 = .ok (.if_icmp .le 5, 3) := by decide +kernel
theorem dX11_back_12 : decode cX11_back 12 = .ok (.iconst (-1), 1) := by decide +kernel
theorem dX11_back_13 : decode cX11_back 13 = .ok (.ireturn, 1) := by decide +kernel
theorem dX11_back_14 : decode cX11_back 14 = .ok (.aload_n 0, 1) := by decide +kernel
theorem dX11_back_15 : decode cX11_back 15 = .ok (.dup, 1) := by decide +kernel
theorem dX11_back_16 : decode cX11_back 16 = .ok (.getfield 117, 3) := by decide +kernel
theorem dX11_back_19 : decode cX11_back 19 = .ok (.iload_n 1, 1) := by decide +kernel
theorem dX11_back_20 : decode cX11_back 20 = .ok (.isub, 1) := by decide +kernel
theorem dX11_back_21 : decode cX11_back 21 = .ok (.putfield 117, 3) := by decide +kernel
theorem dX11_back_24 : decode cX11_back 24 = .ok (.aload_n 0, 1) := by decide +kernel
theorem dX11_back_25 : decode cX11_back 25 = .ok (.getfield 117, 3) := by decide +kernel
theorem dX11_back_28 : decode cX11_back 28 = .ok (.ireturn, 1) := by decide +kernel
theorem dX11_seen_0 : decode cX11_seen 0 = .ok (.iload_n 1, 1) := by decide +kernel
theorem dX11_seen_1 : decode cX11_seen 1 = .ok (.aload_n 0, 1) := by decide +kernel
theorem dX11_seen_2 : decode cX11_seen 2 = .ok (.getfield 117, 3) := by decide +kernel
theorem dX11_seen_5 : decode cX11_seen 5 = .ok (.if_icmp .ge 12, 3) := by decide +kernel
theorem dX11_seen_8 : decode cX11_seen 8 = .ok (.aload_n 0, 1) := by decide +kernel
theorem dX11_seen_9 : decode cX11_seen 9 = .ok (.getfield 7, 3) := by decide +kernel
theorem dX11_seen_12 : decode cX11_seen 12 = .ok (.iload_n 1, 1) := by decide +kernel
theorem dX11_seen_13 : decode cX11_seen 13 = .ok (.baload, 1) := by decide +kernel
theorem dX11_seen_14 : decode cX11_seen 14 = .ok (.goto 4, 3) := by decide +kernel
theorem dX11_seen_17 : decode cX11_seen 17 = .ok (.iconst 0, 1) := by decide +kernel
theorem dX11_seen_18 : decode cX11_seen 18 = .ok (.ireturn, 1) := by decide +kernel
theorem dX11_isDigit_0 : decode cX11_isDigit 0 = .ok (.aload_n 0, 1) := by decide +kernel
theorem dX11_isDigit_1 : decode cX11_isDigit 1 = .ok (.iload_n 1, 1) := by decide +kernel
theorem dX11_isDigit_2 : decode cX11_isDigit 2 = .ok (.invokevirtual 124, 3) := by decide +kernel
theorem dX11_isDigit_5 : decode cX11_isDigit 5 = .ok (.bipush 48, 2) := by decide +kernel
theorem dX11_isDigit_7 : decode cX11_isDigit 7 = .ok (.if_icmp .lt 17, 3) := by decide +kernel
theorem dX11_isDigit_10 : decode cX11_isDigit 10 = .ok (.aload_n 0, 1) := by decide +kernel
theorem dX11_isDigit_11 : decode cX11_isDigit 11 = .ok (.iload_n 1, 1) := by decide +kernel
theorem dX11_isDigit_12 : decode cX11_isDigit 12 = .ok (.invokevirtual 124, 3) := by decide +kernel
theorem dX11_isDigit_15 : decode cX11_isDigit 15 = .ok (.bipush 57, 2) := by decide +kernel
theorem dX11_isDigit_17 : decode cX11_isDigit 17 = .ok (.if_icmp .gt 7, 3) := by decide +kernel
theorem dX11_isDigit_20 : decode cX11_isDigit 20 = .ok (.iconst 1, 1) := by decide +kernel
theorem dX11_isDigit_21 : decode cX11_isDigit 21 = .ok (.goto 4, 3) := by decide +kernel
theorem dX11_isDigit_24 : decode cX11_isDigit 24 = .ok (.iconst 0, 1) := by decide +kernel
theorem dX11_isDigit_25 : decode cX11_isDigit 25 = .ok (.ireturn, 1) := by decide +kernel
theorem dX11_isLetter_0 : decode cX11_isLetter 0 = .ok (.aload_n 0, 1) := by decide +kernel
theorem dX11_isLetter_1 : decode cX11_isLetter 1 = .ok (.iload_n 1, 1) := by decide +kernel
theorem dX11_isLetter_2 : decode cX11_isLetter 2 = .ok (.invokevirtual 124, 3) := by decide +kernel
theorem dX11_isLetter_5 : decode cX11_isLetter 5 = .ok (.bipush 97, 2) := by decide +kernel
theorem dX11_isLetter_7 : decode cX11_isLetter 7 = .ok (.if_icmp .lt 17, 3) := by decide +kernel
theorem dX11_isLetter_10 : decode cX11_isLetter 10 = .ok (.aload_n 0, 1) := by decide +kernel
theorem dX11_isLetter_11 : decode cX11_isLetter 11 = .ok (.iload_n 1, 1) := by decide +kernel
theorem dX11_isLetter_12 : decode cX11_isLetter 12 = .ok (.invokevirtual 124, 3) := by decide +kernel
theorem dX11_isLetter_15 : decode cX11_isLetter 15 = .ok (.bipush 122, 2) := by decide +kernel
theorem dX11_isLetter_17 : decode cX11_isLetter 17 = .ok (.if_icmp .gt 7, 3) := by decide +kernel
theorem dX11_isLetter_20 : decode cX11_isLetter 20 = .ok (.iconst 1, 1) := by decide +kernel
theorem dX11_isLetter_21 : decode cX11_isLetter 21 = .ok (.goto 4, 3) := by decide +kernel
theorem dX11_isLetter_24 : decode cX11_isLetter 24 = .ok (.iconst 0, 1) := by decide +kernel
theorem dX11_isLetter_25 : decode cX11_isLetter 25 = .ok (.ireturn, 1) := by decide +kernel
theorem dX11_word_0 : decode cX11_word 0 = .ok (.lload_n 0, 1) := by decide +kernel
theorem dX11_word_1 : decode cX11_word 1 = .ok (.ldc2_w 128, 3) := by decide +kernel
theorem dX11_word_4 : decode cX11_word 4 = .ok (.lcmp, 1) := by decide +kernel
theorem dX11_word_5 : decode cX11_word 5 = .ok (.ifCond .ne 5, 3) := by decide +kernel
theorem dX11_word_8 : decode cX11_word 8 = .ok (.iconst 0, 1) := by decide +kernel
theorem dX11_word_9 : decode cX11_word 9 = .ok (.ireturn, 1) := by decide +kernel
theorem dX11_word_10 : decode cX11_word 10 = .ok (.lload_n 0, 1) := by decide +kernel
theorem dX11_word_11 : decode cX11_word 11 = .ok (.ldc2_w 130, 3) := by decide +kernel
theorem dX11_word_14 : decode cX11_word 14 = .ok (.lcmp, 1) := by decide +kernel
theorem dX11_word_15 : decode cX11_word 15 = .ok (.ifCond .ne 5, 3) := by decide +kernel
theorem dX11_word_18 : decode cX11_word 18 = .ok (.iconst 1, 1) := by decide +kernel
theorem dX11_word_19 : decode cX11_word 19 = .ok (.ireturn, 1) := by decide +kernel
theorem dX11_word_20 : decode cX11_word 20 = .ok (.lload_n 0, 1) := by decide +kernel
theorem dX11_word_21 : decode cX11_word 21 = .ok (.ldc2_w 132, 3) := by decide +kernel
theorem dX11_word_24 : decode cX11_word 24 = .ok (.lcmp, 1) := by decide +kernel
theorem dX11_word_25 : decode cX11_word 25 = .ok (.ifCond .ne 5, 3) := by decide +kernel
theorem dX11_word_28 : decode cX11_word 28 = .ok (.iconst 2, 1) := by decide +kernel
theorem dX11_word_29 : decode cX11_word 29 = .ok (.ireturn, 1) := by decide +kernel
theorem dX11_word_30 : decode cX11_word 30 = .ok (.lload_n 0, 1) := by decide +kernel
theorem dX11_word_31 : decode cX11_word 31 = .ok (.ldc2_w 134, 3) := by decide +kernel
theorem dX11_word_34 : decode cX11_word 34 = .ok (.lcmp, 1) := by decide +kernel
theorem dX11_word_35 : decode cX11_word 35 = .ok (.ifCond .ne 5, 3) := by decide +kernel
theorem dX11_word_38 : decode cX11_word 38 = .ok (.iconst 3, 1) := by decide +kernel
theorem dX11_word_39 : decode cX11_word 39 = .ok (.ireturn, 1) := by decide +kernel
theorem dX11_word_40 : decode cX11_word 40 = .ok (.lload_n 0, 1) := by decide +kernel
theorem dX11_word_41 : decode cX11_word 41 = .ok (.ldc2_w 136, 3) := by decide +kernel
theorem dX11_word_44 : decode cX11_word 44 = .ok (.lcmp, 1) := by decide +kernel
theorem dX11_word_45 : decode cX11_word 45 = .ok (.ifCond .ne 5, 3) := by decide +kernel
theorem dX11_word_48 : decode cX11_word 48 = .ok (.iconst 4, 1) := by decide +kernel
theorem dX11_word_49 : decode cX11_word 49 = .ok (.ireturn, 1) := by decide +kernel
theorem dX11_word_50 : decode cX11_word 50 = .ok (.lload_n 0, 1) := by decide +kernel
theorem dX11_word_51 : decode cX11_word 51 = .ok (.ldc2_w 138, 3) := by decide +kernel
theorem dX11_word_54 : decode cX11_word 54 = .ok (.lcmp, 1) := by decide +kernel
theorem dX11_word_55 : decode cX11_word 55 = .ok (.ifCond .ne 5, 3) := by decide +kernel
theorem dX11_word_58 : decode cX11_word 58 = .ok (.iconst 5, 1) := by decide +kernel
theorem dX11_word_59 : decode cX11_word 59 = .ok (.ireturn, 1) := by decide +kernel
theorem dX11_word_60 : decode cX11_word 60 = .ok (.lload_n 0, 1) := by decide +kernel
theorem dX11_word_61 : decode cX11_word 61 = .ok (.ldc2_w 140, 3) := by decide +kernel
theorem dX11_word_64 : decode cX11_word 64 = .ok (.lcmp, 1) := by decide +kernel
theorem dX11_word_65 : decode cX11_word 65 = .ok (.ifCond .ne 6, 3) := by decide +kernel
theorem dX11_word_68 : decode cX11_word 68 = .ok (.bipush 6, 2) := by decide +kernel
theorem dX11_word_70 : decode cX11_word 70 = .ok (.ireturn, 1) := by decide +kernel
theorem dX11_word_71 : decode cX11_word 71 = .ok (.lload_n 0, 1) := by decide +kernel
theorem dX11_word_72 : decode cX11_word 72 = .ok (.ldc2_w 142, 3) := by decide +kernel
theorem dX11_word_75 : decode cX11_word 75 = .ok (.lcmp, 1) := by decide +kernel
theorem dX11_word_76 : decode cX11_word 76 = .ok (.ifCond .ne 6, 3) := by decide +kernel
theorem dX11_word_79 : decode cX11_word 79 = .ok (.bipush 7, 2) := by decide +kernel
theorem dX11_word_81 : decode cX11_word 81 = .ok (.ireturn, 1) := by decide +kernel
theorem dX11_word_82 : decode cX11_word 82 = .ok (.lload_n 0, 1) := by decide +kernel
theorem dX11_word_83 : decode cX11_word 83 = .ok (.ldc2_w 144, 3) := by decide +kernel
theorem dX11_word_86 : decode cX11_word 86 = .ok (.lcmp, 1) := by decide +kernel
theorem dX11_word_87 : decode cX11_word 87 = .ok (.ifCond .ne 8, 3) := by decide +kernel
theorem dX11_word_90 : decode cX11_word 90 = .ok (.bipush 8, 2) := by decide +kernel
theorem dX11_word_92 : decode cX11_word 92 = .ok (.goto 4, 3) := by decide +kernel
theorem dX11_word_95 : decode cX11_word 95 = .ok (.iconst (-1), 1) := by decide +kernel
theorem dX11_word_96 : decode cX11_word 96 = .ok (.ireturn, 1) := by decide +kernel
theorem dX11_token_0 : decode cX11_token 0 = .ok (.aload_n 0, 1) := by decide +kernel
theorem dX11_token_1 : decode cX11_token 1 = .ok (.getfield 146, 3) := by decide +kernel
theorem dX11_token_4 : decode cX11_token 4 = .ok (.istore_n 1, 1) := by decide +kernel
theorem dX11_token_5 : decode cX11_token 5 = .ok (.iload_n 1, 1) := by decide +kernel
theorem dX11_token_6 : decode cX11_token 6 = .ok (.aload_n 0, 1) := by decide +kernel
theorem dX11_token_7 : decode cX11_token 7 = .ok (.getfield 117, 3) := by decide +kernel
theorem dX11_token_10 : decode cX11_token 10 = .ok (.if_icmp .ge 53, 3) := by decide +kernel
theorem dX11_token_13 : decode cX11_token 13 = .ok (.aload_n 0, 1) := by decide +kernel
theorem dX11_token_14 : decode cX11_token 14 = .ok (.getfield 7, 3) := by decide +kernel
theorem dX11_token_17 : decode cX11_token 17 = .ok (.iload_n 1, 1) := by decide +kernel
theorem dX11_token_18 : decode cX11_token 18 = .ok (.baload, 1) := by decide +kernel
theorem dX11_token_19 : decode cX11_token 19 = .ok (.bipush 9, 2) := by decide +kernel
theorem dX11_token_21 : decode cX11_token 21 = .ok (.if_icmp .eq 36, 3) := by decide +kernel
theorem dX11_token_24 : decode cX11_token 24 = .ok (.aload_n 0, 1) := by decide +kernel
theorem dX11_token_25 : decode cX11_token 25 = .ok (.getfield 7, 3) := by decide +kernel
theorem dX11_token_28 : decode cX11_token 28 = .ok (.iload_n 1, 1) := by decide +kernel
theorem dX11_token_29 : decode cX11_token 29 = .ok (.baload, 1) := by decide +kernel
theorem dX11_token_30 : decode cX11_token 30 = .ok (.bipush 10, 2) := by decide +kernel
theorem dX11_token_32 : decode cX11_token 32 = .ok (.if_icmp .eq 25, 3) := by decide +kernel
theorem dX11_token_35 : decode cX11_token 35 = .ok (.aload_n 0, 1) := by decide +kernel
theorem dX11_token_36 : decode cX11_token 36 = .ok (.getfield 7, 3) := by decide +kernel
theorem dX11_token_39 : decode cX11_token 39 = .ok (.iload_n 1, 1) := by decide +kernel
theorem dX11_token_40 : decode cX11_token 40 = .ok (.baload, 1) := by decide +kernel
theorem dX11_token_41 : decode cX11_token 41 = .ok (.bipush 13, 2) := by decide +kernel
theorem dX11_token_43 : decode cX11_token 43 = .ok (.if_icmp .eq 14, 3) := by decide +kernel
theorem dX11_token_46 : decode cX11_token 46 = .ok (.aload_n 0, 1) := by decide +kernel
theorem dX11_token_47 : decode cX11_token 47 = .ok (.getfield 7, 3) := by decide +kernel
theorem dX11_token_50 : decode cX11_token 50 = .ok (.iload_n 1, 1) := by decide +kernel
theorem dX11_token_51 : decode cX11_token 51 = .ok (.baload, 1) := by decide +kernel
theorem dX11_token_52 : decode cX11_token 52 = .ok (.bipush 32, 2) := by decide +kernel
theorem dX11_token_54 : decode cX11_token 54 = .ok (.if_icmp .ne 9, 3) := by decide +kernel
theorem dX11_token_57 : decode cX11_token 57 = .ok (.iinc 1 1, 3) := by decide +kernel
theorem dX11_token_60 : decode cX11_token 60 = .ok (.goto (-55), 3) := by decide +kernel
theorem dX11_token_63 : decode cX11_token 63 = .ok (.aload_n 0, 1) := by decide +kernel
theorem dX11_token_64 : decode cX11_token 64 = .ok (.iload_n 1, 1) := by decide +kernel
theorem dX11_token_65 : decode cX11_token 65 = .ok (.putfield 149, 3) := by decide +kernel
theorem dX11_token_68 : decode cX11_token 68 = .ok (.iload_n 1, 1) := by decide +kernel
theorem dX11_token_69 : decode cX11_token 69 = .ok (.iconst 1, 1) := by decide +kernel
theorem dX11_token_70 : decode cX11_token 70 = .ok (.iadd, 1) := by decide +kernel
theorem dX11_token_71 : decode cX11_token 71 = .ok (.istore_n 2, 1) := by decide +kernel
theorem dX11_token_72 : decode cX11_token 72 = .ok (.aload_n 0, 1) := by decide +kernel
theorem dX11_token_73 : decode cX11_token 73 = .ok (.iload_n 1, 1) := by decide +kernel
theorem dX11_token_74 : decode cX11_token 74 = .ok (.invokevirtual 124, 3) := by decide +kernel
theorem dX11_token_77 : decode cX11_token 77 = .ok (.istore_n 3, 1) := by decide +kernel
theorem dX11_token_78 : decode cX11_token 78 = .ok (.aload_n 0, 1) := by decide +kernel
theorem dX11_token_79 : decode cX11_token 79 = .ok (.iload_n 3, 1) := by decide +kernel
theorem dX11_token_80 : decode cX11_token 80 = .ok (.putfield 152, 3) := by decide +kernel
theorem dX11_token_83 : decode cX11_token 83 = .ok (.iload_n 1, 1) := by decide +kernel
theorem dX11_token_84 : decode cX11_token 84 = .ok (.aload_n 0, 1) := by decide +kernel
theorem dX11_token_85 : decode cX11_token 85 = .ok (.getfield 117, 3) := by decide +kernel
theorem dX11_token_88 : decode cX11_token 88 = .ok (.if_icmp .lt 13, 3) := by decide +kernel
theorem dX11_token_91 : decode cX11_token 91 = .ok (.aload_n 0, 1) := by decide +kernel
theorem dX11_token_92 : decode cX11_token 92 = .ok (.iconst 0, 1) := by decide +kernel
theorem dX11_token_93 : decode cX11_token 93 = .ok (.putfield 155, 3) := by decide +kernel
theorem dX11_token_96 : decode cX11_token 96 = .ok (.iload_n 1, 1) := by decide +kernel
theorem dX11_token_97 : decode cX11_token 97 = .ok (.istore_n 2, 1) := by decide +kernel
theorem dX11_token_98 : decode cX11_token 98 = .ok (.goto 348, 3) := by decide +kernel
theorem dX11_token_101 : decode cX11_token 101 = .ok (.aload_n 0, 1) := by decide +kernel
theorem dX11_token_102 : decode cX11_token 102 = .ok (.iload_n 1, 1) := by decide +kernel
theorem dX11_token_103 : decode cX11_token 103 = .ok (.invokevirtual 158, 3) := by decide +kernel
theorem dX11_token_106 : decode cX11_token 106 = .ok (.ifCond .eq 127, 3) := by decide +kernel
theorem dX11_token_109 : decode cX11_token 109 = .ok (.aload_n 0, 1) := by decide +kernel
theorem dX11_token_110 : decode cX11_token 110 = .ok (.iload_n 2, 1) := by decide +kernel
theorem dX11_token_111 : decode cX11_token 111 = .ok (.invokevirtual 158, 3) := by decide +kernel
theorem dX11_token_114 : decode cX11_token 114 = .ok (.ifCond .ne 11, 3) := by decide +kernel
theorem dX11_token_117 : decode cX11_token 117 = .ok (.aload_n 0, 1) := by decide +kernel
theorem dX11_token_118 : decode cX11_token 118 = .ok (.iload_n 2, 1) := by decide +kernel
theorem dX11_token_119 : decode cX11_token 119 = .ok (.invokevirtual 162, 3) := by decide +kernel
theorem dX11_token_122 : decode cX11_token 122 = .ok (.ifCond .eq 9, 3) := by decide +kernel
theorem dX11_token_125 : decode cX11_token 125 = .ok (.iinc 2 1, 3) := by decide +kernel
theorem dX11_token_128 : decode cX11_token 128 = .ok (.goto (-19), 3) := by decide +kernel
theorem dX11_token_131 : decode cX11_token 131 = .ok (.aload_n 0, 1) := by decide +kernel
theorem dX11_token_132 : decode cX11_token 132 = .ok (.lconst 0, 1) := by decide +kernel
theorem dX11_token_133 : decode cX11_token 133 = .ok (.putfield 165, 3) := by decide +kernel
theorem dX11_token_136 : decode cX11_token 136 = .ok (.iload_n 1, 1) := by decide +kernel
theorem dX11_token_137 : decode cX11_token 137 = .ok (.istore 4, 2) := by decide +kernel
theorem dX11_token_139 : decode cX11_token 139 = .ok (.iload 4, 2) := by decide +kernel
theorem dX11_token_141 : decode cX11_token 141 = .ok (.iload_n 2, 1) := by decide +kernel
theorem dX11_token_142 : decode cX11_token 142 = .ok (.if_icmp .ge 37, 3) := by decide +kernel
theorem dX11_token_145 : decode cX11_token 145 = .ok (.iload_n 2, 1) := by decide +kernel
theorem dX11_token_146 : decode cX11_token 146 = .ok (.iload_n 1, 1) := by decide +kernel
theorem dX11_token_147 : decode cX11_token 147 = .ok (.isub, 1) := by decide +kernel
theorem dX11_token_148 : decode cX11_token 148 = .ok (.bipush 9, 2) := by decide +kernel
theorem dX11_token_150 : decode cX11_token 150 = .ok (.if_icmp .ge 29, 3) := by decide +kernel
theorem dX11_token_153 : decode cX11_token 153 = .ok (.aload_n 0, 1) := by decide +kernel
theorem dX11_token_154 : decode cX11_token 154 = .ok (.aload_n 0, 1) := by decide +kernel
theorem dX11_token_155 : decode cX11_token 155 = .ok (.getfield 165, 3) := by decide +kernel
theorem dX11_token_158 : decode cX11_token 158 = .ok (.bipush 8, 2) := by decide +kernel
theorem dX11_token_160 : decode cX11_token 160 = .ok (.lshl, 1) := by decide +kernel
theorem dX11_token_161 : decode cX11_token 161 = .ok (.aload_n 0, 1) := by decide +kernel
theorem dX11_token_162 : decode cX11_token 162 = .ok (.getfield 7, 3) := by decide +kernel
theorem dX11_token_165 : decode cX11_token 165 = .ok (.iload 4, 2) := by decide +kernel
theorem dX11_token_167 : decode cX11_token 167 = .ok (.baload, 1) := by decide +kernel
theorem dX11_token_168 : decode cX11_token 168 = .ok (.i2l, 1) := by decide +kernel
theorem dX11_token_169 : decode cX11_token 169 = .ok (.lor, 1) := by decide +kernel
theorem dX11_token_170 : decode cX11_token 170 = .ok (.putfield 165, 3) := by decide +kernel
theorem dX11_token_173 : decode cX11_token 173 = .ok (.iinc 4 1, 3) := by decide +kernel
theorem dX11_token_176 : decode cX11_token 176 = .ok (.goto (-37), 3) := by decide +kernel
theorem dX11_token_179 : decode cX11_token 179 = .ok (.aload_n 0, 1) := by decide +kernel
theorem dX11_token_180 : decode cX11_token 180 = .ok (.iload_n 2, 1) := by decide +kernel
theorem dX11_token_181 : decode cX11_token 181 = .ok (.iload_n 1, 1) := by decide +kernel
theorem dX11_token_182 : decode cX11_token 182 = .ok (.isub, 1) := by decide +kernel
theorem dX11_token_183 : decode cX11_token 183 = .ok (.bipush 8, 2) := by decide +kernel
theorem dX11_token_185 : decode cX11_token 185 = .ok (.if_icmp .le 7, 3) := by decide +kernel
theorem dX11_token_188 : decode cX11_token 188 = .ok (.iconst (-1), 1) := by decide +kernel
theorem dX11_token_189 : decode cX11_token 189 = .ok (.goto 10, 3) := by decide +kernel
theorem dX11_token_192 : decode cX11_token 192 = .ok (.aload_n 0, 1) := by decide +kernel
theorem dX11_token_193 : decode cX11_token 193 = .ok (.getfield 165, 3) := by decide +kernel
theorem dX11_token_196 : decode cX11_token 196 = .ok (.invokestatic 169, 3) := by decide +kernel
theorem dX11_token_199 : decode cX11_token 199 = .ok (.putfield 152, 3) := by decide +kernel
theorem dX11_token_202 : decode cX11_token 202 = .ok (.aload_n 0, 1) := by decide +kernel
theorem dX11_token_203 : decode cX11_token 203 = .ok (.iload_n 2, 1) := by decide +kernel
theorem dX11_token_204 : decode cX11_token 204 = .ok (.iload_n 1, 1) := by decide +kernel
theorem dX11_token_205 : decode cX11_token 205 = .ok (.isub, 1) := by decide +kernel
theorem dX11_token_206 : decode cX11_token 206 = .ok (.bipush 8, 2) := by decide +kernel
theorem dX11_token_208 : decode cX11_token 208 = .ok (.if_icmp .le 7, 3) := by decide +kernel
theorem dX11_token_211 : decode cX11_token 211 = .ok (.iconst 5, 1) := by decide +kernel
theorem dX11_token_212 : decode cX11_token 212 = .ok (.goto 15, 3) := by decide +kernel
theorem dX11_token_215 : decode cX11_token 215 = .ok (.aload_n 0, 1) := by decide +kernel
theorem dX11_token_216 : decode cX11_token 216 = .ok (.getfield 152, 3) := by decide +kernel
theorem dX11_token_219 : decode cX11_token 219 = .ok (.ifCond .lt 7, 3) := by decide +kernel
theorem dX11_token_222 : decode cX11_token 222 = .ok (.iconst 4, 1) := by decide +kernel
theorem dX11_token_223 : decode cX11_token 223 = .ok (.goto 4, 3) := by decide +kernel
theorem dX11_token_226 : decode cX11_token 226 = .ok (.iconst 1, 1) := by decide +kernel
theorem dX11_token_227 : decode cX11_token 227 = .ok (.putfield 155, 3) := by decide +kernel
theorem dX11_token_230 : decode cX11_token 230 = .ok (.goto 216, 3) := by decide +kernel
theorem dX11_token_233 : decode cX11_token 233 = .ok (.aload_n 0, 1) := by decide +kernel
theorem dX11_token_234 : decode cX11_token 234 = .ok (.iload_n 1, 1) := by decide +kernel
theorem dX11_token_235 : decode cX11_token 235 = .ok (.invokevirtual 162, 3) := by decide +kernel
theorem dX11_token_238 : decode cX11_token 238 = .ok (.ifCond .eq 36, 3) := by decide +kernel
theorem dX11_token_241 : decode cX11_token 241 = .ok (.aload_n 0, 1) := by decide +kernel
theorem dX11_token_242 : decode cX11_token 242 = .ok (.iload_n 2, 1) := by decide +kernel
theorem dX11_token_243 : decode cX11_token 243 = .ok (.invokevirtual 162, 3) := by decide +kernel
theorem dX11_token_246 : decode cX11_token 246 = .ok (.ifCond .eq 9, 3) := by decide +kernel
theorem dX11_token_249 : decode cX11_token 249 = .ok (.iinc 2 1, 3) := by decide +kernel
theorem dX11_token_252 : decode cX11_token 252 = .ok (.goto (-11), 3) := by decide +kernel
theorem dX11_token_255 : decode cX11_token 255 = .ok (.aload_n 0, 1) := by decide +kernel
theorem dX11_token_256 : decode cX11_token 256 = .ok (.iload_n 2, 1) := by decide +kernel
theorem dX11_token_257 : decode cX11_token 257 = .ok (.iload_n 1, 1) := by decide +kernel
theorem dX11_token_258 : decode cX11_token 258 = .ok (.isub, 1) := by decide +kernel
theorem dX11_token_259 : decode cX11_token 259 = .ok (.iconst 4, 1) := by decide +kernel
theorem dX11_token_260 : decode cX11_token 260 = .ok (.if_icmp .le 7, 3) := by decide +kernel
theorem dX11_token_263 : decode cX11_token 263 = .ok (.iconst 5, 1) := by decide +kernel
theorem dX11_token_264 : decode cX11_token 264 = .ok (.goto 4, 3) := by decide +kernel
theorem dX11_token_267 : decode cX11_token 267 = .ok (.iconst 2, 1) := by decide +kernel
theorem dX11_token_268 : decode cX11_token 268 = .ok (.putfield 155, 3) := by decide +kernel
theorem dX11_token_271 : decode cX11_token 271 = .ok (.goto 175, 3) := by decide +kernel
theorem dX11_token_274 : decode cX11_token 274 = .ok (.aload_n 0, 1) := by decide +kernel
theorem dX11_token_275 : decode cX11_token 275 = .ok (.iload_n 2, 1) := by decide +kernel
theorem dX11_token_276 : decode cX11_token 276 = .ok (.invokevirtual 124, 3) := by decide +kernel
theorem dX11_token_279 : decode cX11_token 279 = .ok (.bipush 61, 2) := by decide +kernel
theorem dX11_token_281 : decode cX11_token 281 = .ok (.if_icmp .ne 7, 3) := by decide +kernel
theorem dX11_token_284 : decode cX11_token 284 = .ok (.iconst 1, 1) := by decide +kernel
theorem dX11_token_285 : decode cX11_token 285 = .ok (.goto 4, 3) := by decide +kernel
theorem dX11_token_288 : decode cX11_token 288 = .ok (.iconst 0, 1) := by decide +kernel
theorem dX11_token_289 : decode cX11_token 289 = .ok (.istore 4, 2) := by decide +kernel
theorem dX11_token_291 : decode cX11_token 291 = .ok (.iload 4, 2) := by decide +kernel
theorem dX11_token_293 : decode cX11_token 293 = .ok (.ifCond .eq 25, 3) := by decide +kernel
theorem dX11_token_296 : decode cX11_token 296 = .ok (.iload_n 3, 1) := by decide +kernel
theorem dX11_token_297 : decode cX11_token 297 = .ok (.bipush 61, 2) := by decide +kernel
theorem dX11_token_299 : decode cX11_token 299 = .ok (.if_icmp .eq 15, 3) := by decide +kernel
theorem dX11_token_302 : decode cX11_token 302 = .ok (.iload_n 3, 1) := by decide +kernel
theorem dX11_token_303 : decode cX11_token 303 = .ok (.bipush 33, 2) := by decide +kernel
theorem dX11_token_305 : decode cX11_token 305 = .ok (.if_icmp .eq 9, 3) := by decide +kernel
theorem dX11_token_308 : decode cX11_token 308 = .ok (.iload_n 3, 1) := by decide +kernel
theorem dX11_token_309 : decode cX11_token 309 = .ok (.bipush 60, 2) := by decide +kernel
theorem dX11_token_311 : decode cX11_token 311 = .ok (.if_icmp .ne 7, 3) := by decide +kernel
theorem dX11_token_314 : decode cX11_token 314 = .ok (.iconst 1, 1) := by decide +kernel
theorem dX11_token_315 : decode cX11_token 315 = .ok (.goto 4, 3) := by decide +kernel
theorem dX11_token_318 : decode cX11_token 318 = .ok (.iconst 0, 1) := by decide +kernel
theorem dX11_token_319 : decode cX11_token 319 = .ok (.istore 5, 2) := by decide +kernel
theorem dX11_token_321 : decode cX11_token 321 = .ok (.iload 5, 2) := by decide +kernel
theorem dX11_token_323 : decode cX11_token 323 = .ok (.ifCond .ne 63, 3) := by decide +kernel
theorem dX11_token_326 : decode cX11_token 326 = .ok (.iload_n 3, 1) := by decide +kernel
theorem dX11_token_327 : decode cX11_token 327 = .ok (.bipush 59, 2) := by decide +kernel
theorem dX11_token_329 : decode cX11_token 329 = .ok (.if_icmp .eq 57, 3) := by decide +kernel
theorem dX11_token_332 : decode cX11_token 332 = .ok (.iload_n 3, 1) := by decide +kernel
theorem dX11_token_333 : decode cX11_token 333 = .ok (.bipush 46, 2) := by decide +kernel
theorem dX11_token_335 : decode cX11_token 335 = .ok (.if_icmp .eq 51, 3) := by decide +kernel
theorem dX11_token_338 : decode cX11_token 338 = .ok (.iload_n 3, 1) := by decide +kernel
theorem dX11_token_339 : decode cX11_token 339 = .ok (.bipush 40, 2) := by decide +kernel
theorem dX11_token_341 : decode cX11_token 341 = .ok (.if_icmp .eq 45, 3) := by decide +kernel
theorem dX11_token_344 : decode cX11_token 344 = .ok (.iload_n 3, 1) := by decide +kernel
theorem dX11_token_345 : decode cX11_token 345 = .ok (.bipush 41, 2) := by decide +kernel
theorem dX11_token_347 : decode cX11_token 347 = .ok (.if_icmp .eq 39, 3) := by decide +kernel
theorem dX11_token_350 : decode cX11_token 350 = .ok (.iload_n 3, 1) := by decide +kernel
theorem dX11_token_351 : decode cX11_token 351 = .ok (.bipush 91, 2) := by decide +kernel
theorem dX11_token_353 : decode cX11_token 353 = .ok (.if_icmp .eq 33, 3) := by decide +kernel
theorem dX11_token_356 : decode cX11_token 356 = .ok (.iload_n 3, 1) := by decide +kernel
theorem dX11_token_357 : decode cX11_token 357 = .ok (.bipush 93, 2) := by decide +kernel
theorem dX11_token_359 : decode cX11_token 359 = .ok (.if_icmp .eq 27, 3) := by decide +kernel
theorem dX11_token_362 : decode cX11_token 362 = .ok (.iload_n 3, 1) := by decide +kernel
theorem dX11_token_363 : decode cX11_token 363 = .ok (.bipush 43, 2) := by decide +kernel
theorem dX11_token_365 : decode cX11_token 365 = .ok (.if_icmp .eq 21, 3) := by decide +kernel
theorem dX11_token_368 : decode cX11_token 368 = .ok (.iload_n 3, 1) := by decide +kernel
theorem dX11_token_369 : decode cX11_token 369 = .ok (.bipush 45, 2) := by decide +kernel
theorem dX11_token_371 : decode cX11_token 371 = .ok (.if_icmp .eq 15, 3) := by decide +kernel
theorem dX11_token_374 : decode cX11_token 374 = .ok (.iload_n 3, 1) := by decide +kernel
theorem dX11_token_375 : decode cX11_token 375 = .ok (.bipush 42, 2) := by decide +kernel
theorem dX11_token_377 : decode cX11_token 377 = .ok (.if_icmp .eq 9, 3) := by decide +kernel
theorem dX11_token_380 : decode cX11_token 380 = .ok (.iload_n 3, 1) := by decide +kernel
theorem dX11_token_381 : decode cX11_token 381 = .ok (.bipush 60, 2) := by decide +kernel
theorem dX11_token_383 : decode cX11_token 383 = .ok (.if_icmp .ne 7, 3) := by decide +kernel
theorem dX11_token_386 : decode cX11_token 386 = .ok (.iconst 1, 1) := by decide +kernel
theorem dX11_token_387 : decode cX11_token 387 = .ok (.goto 4, 3) := by decide +kernel
theorem dX11_token_390 : decode cX11_token 390 = .ok (.iconst 0, 1) := by decide +kernel
theorem dX11_token_391 : decode cX11_token 391 = .ok (.istore 6, 2) := by decide +kernel
theorem dX11_token_393 : decode cX11_token 393 = .ok (.aload_n 0, 1) := by decide +kernel
theorem dX11_token_394 : decode cX11_token 394 = .ok (.iload 6, 2) := by decide +kernel
theorem dX11_token_396 : decode cX11_token 396 = .ok (.ifCond .eq 7, 3) := by decide +kernel
theorem dX11_token_399 : decode cX11_token 399 = .ok (.iconst 3, 1) := by decide +kernel
theorem dX11_token_400 : decode cX11_token 400 = .ok (.goto 4, 3) := by decide +kernel
theorem dX11_token_403 : decode cX11_token 403 = .ok (.iconst 5, 1) := by decide +kernel
theorem dX11_token_404 : decode cX11_token 404 = .ok (.putfield 155, 3) := by decide +kernel
theorem dX11_token_407 : decode cX11_token 407 = .ok (.iload 5, 2) := by decide +kernel
theorem dX11_token_409 : decode cX11_token 409 = .ok (.ifCond .eq 37, 3) := by decide +kernel
theorem dX11_token_412 : decode cX11_token 412 = .ok (.aload_n 0, 1) := by decide +kernel
theorem dX11_token_413 : decode cX11_token 413 = .ok (.iload_n 3, 1) := by decide +kernel
theorem dX11_token_414 : decode cX11_token 414 = .ok (.bipush 61, 2) := by decide +kernel
theorem dX11_token_416 : decode cX11_token 416 = .ok (.if_icmp .ne 9, 3) := by decide +kernel
theorem dX11_token_419 : decode cX11_token 419 = .ok (.sipush 256, 3) := by decide +kernel
theorem dX11_token_422 : decode cX11_token 422 = .ok (.goto 18, 3) := by decide +kernel
theorem dX11_token_425 : decode cX11_token 425 = .ok (.iload_n 3, 1) := by decide +kernel
theorem dX11_token_426 : decode cX11_token 426 = .ok (.bipush 33, 2) := by decide +kernel
theorem dX11_token_428 : decode cX11_token 428 = .ok (.if_icmp .ne 9, 3) := by decide +kernel
theorem dX11_token_431 : decode cX11_token 431 = .ok (.sipush 257, 3) := by decide +kernel
theorem dX11_token_434 : decode cX11_token 434 = .ok (.goto 6, 3) := by decide +kernel
theorem dX11_token_437 : decode cX11_token 437 = .ok (.sipush 258, 3) := by decide +kernel
theorem dX11_token_440 : decode cX11_token 440 = .ok (.putfield 152, 3) := by decide +kernel
theorem dX11_token_443 : decode cX11_token 443 = .ok (.iinc 2 1, 3) := by decide +kernel
theorem dX11_token_446 : decode cX11_token 446 = .ok (.aload_n 0, 1) := by decide +kernel
theorem dX11_token_447 : decode cX11_token 447 = .ok (.iload_n 2, 1) := by decide +kernel
theorem dX11_token_448 : decode cX11_token 448 = .ok (.putfield 146, 3) := by decide +kernel
theorem dX11_token_451 : decode cX11_token 451 = .ok (.return_, 1) := by decide +kernel
theorem dX11_stop_0 : decode cX11_stop 0 = .ok (.aload_n 0, 1) := by decide +kernel
theorem dX11_stop_1 : decode cX11_stop 1 = .ok (.iload_n 1, 1) := by decide +kernel
theorem dX11_stop_2 : decode cX11_stop 2 = .ok (.putfield 173, 3) := by decide +kernel
theorem dX11_stop_5 : decode cX11_stop 5 = .ok (.aload_n 0, 1) := by decide +kernel
theorem dX11_stop_6 : decode cX11_stop 6 = .ok (.iload_n 2, 1) := by decide +kernel
theorem dX11_stop_7 : decode cX11_stop 7 = .ok (.putfield 13, 3) := by decide +kernel
theorem dX11_stop_10 : decode cX11_stop 10 = .ok (.iconst 0, 1) := by decide +kernel
theorem dX11_stop_11 : decode cX11_stop 11 = .ok (.ireturn, 1) := by decide +kernel
theorem dX11_fault_0 : decode cX11_fault 0 = .ok (.aload_n 0, 1) := by decide +kernel
theorem dX11_fault_1 : decode cX11_fault 1 = .ok (.getfield 173, 3) := by decide +kernel
theorem dX11_fault_4 : decode cX11_fault 4 = .ok (.ifCond .eq 27, 3) := by decide +kernel
theorem dX11_fault_7 : decode cX11_fault 7 = .ok (.iload_n 2, 1) := by decide +kernel
theorem dX11_fault_8 : decode cX11_fault 8 = .ok (.aload_n 0, 1) := by decide +kernel
theorem dX11_fault_9 : decode cX11_fault 9 = .ok (.getfield 13, 3) := by decide +kernel
theorem dX11_fault_12 : decode cX11_fault 12 = .ok (.if_icmp .lt 19, 3) := by decide +kernel
theorem dX11_fault_15 : decode cX11_fault 15 = .ok (.iload_n 2, 1) := by decide +kernel
theorem dX11_fault_16 : decode cX11_fault 16 = .ok (.aload_n 0, 1) := by decide +kernel
theorem dX11_fault_17 : decode cX11_fault 17 = .ok (.getfield 13, 3) := by decide +kernel
theorem dX11_fault_20 : decode cX11_fault 20 = .ok (.if_icmp .ne 21, 3) := by decide +kernel
theorem dX11_fault_23 : decode cX11_fault 23 = .ok (.iload_n 1, 1) := by decide +kernel
theorem dX11_fault_24 : decode cX11_fault 24 = .ok (.aload_n 0, 1) := by decide +kernel
theorem dX11_fault_25 : decode cX11_fault 25 = .ok (.getfield 173, 3) := by decide +kernel
theorem dX11_fault_28 : decode cX11_fault 28 = .ok (.if_icmp .ge 13, 3) := by decide +kernel
theorem dX11_fault_31 : decode cX11_fault 31 = .ok (.aload_n 0, 1) := by decide +kernel
theorem dX11_fault_32 : decode cX11_fault 32 = .ok (.iload_n 1, 1) := by decide +kernel
theorem dX11_fault_33 : decode cX11_fault 33 = .ok (.putfield 173, 3) := by decide +kernel
theorem dX11_fault_36 : decode cX11_fault 36 = .ok (.aload_n 0, 1) := by decide +kernel
theorem dX11_fault_37 : decode cX11_fault 37 = .ok (.iload_n 2, 1) := by decide +kernel
theorem dX11_fault_38 : decode cX11_fault 38 = .ok (.putfield 13, 3) := by decide +kernel
theorem dX11_fault_41 : decode cX11_fault 41 = .ok (.return_, 1) := by decide +kernel
theorem dX11_pass_0 : decode cX11_pass 0 = .ok (.aload_n 0, 1) := by decide +kernel
theorem dX11_pass_1 : decode cX11_pass 1 = .ok (.getfield 176, 3) := by decide +kernel
theorem dX11_pass_4 : decode cX11_pass 4 = .ok (.sipush 600, 3) := by decide +kernel
theorem dX11_pass_7 : decode cX11_pass 7 = .ok (.if_icmp .le 13, 3) := by decide +kernel
theorem dX11_pass_10 : decode cX11_pass 10 = .ok (.aload_n 0, 1) := by decide +kernel
theorem dX11_pass_11 : decode cX11_pass 11 = .ok (.iconst 2, 1) := by decide +kernel
theorem dX11_pass_12 : decode cX11_pass 12 = .ok (.aload_n 0, 1) := by decide +kernel
theorem dX11_pass_13 : decode cX11_pass 13 = .ok (.getfield 149, 3) := by decide +kernel
theorem dX11_pass_16 : decode cX11_pass 16 = .ok (.invokevirtual 179, 3) := by decide +kernel
theorem dX11_pass_19 : decode cX11_pass 19 = .ok (.ireturn, 1) := by decide +kernel
theorem dX11_pass_20 : decode cX11_pass 20 = .ok (.aload_n 0, 1) := by decide +kernel
theorem dX11_pass_21 : decode cX11_pass 21 = .ok (.dup, 1) := by decide +kernel
theorem dX11_pass_22 : decode cX11_pass 22 = .ok (.getfield 176, 3) := by decide +kernel
theorem dX11_pass_25 : decode cX11_pass 25 = .ok (.iconst 1, 1) := by decide +kernel
theorem dX11_pass_26 : decode cX11_pass 26 = .ok (.iadd, 1) := by decide +kernel
theorem dX11_pass_27 : decode cX11_pass 27 = .ok (.putfield 176, 3) := by decide +kernel
theorem dX11_pass_30 : decode cX11_pass 30 = .ok (.aload_n 0, 1) := by decide +kernel
theorem dX11_pass_31 : decode cX11_pass 31 = .ok (.invokevirtual 183, 3) := by decide +kernel
theorem dX11_pass_34 : decode cX11_pass 34 = .ok (.iconst 1, 1) := by decide +kernel
theorem dX11_pass_35 : decode cX11_pass 35 = .ok (.ireturn, 1) := by decide +kernel
theorem dX11_isSign_0 : decode cX11_isSign 0 = .ok (.aload_n 0, 1) := by decide +kernel
theorem dX11_isSign_1 : decode cX11_isSign 1 = .ok (.getfield 155, 3) := by decide +kernel
theorem dX11_isSign_4 : decode cX11_isSign 4 = .ok (.iconst 3, 1) := by decide +kernel
theorem dX11_isSign_5 : decode cX11_isSign 5 = .ok (.if_icmp .ne 15, 3) := by decide +kernel
theorem dX11_isSign_8 : decode cX11_isSign 8 = .ok (.aload_n 0, 1) := by decide +kernel
theorem dX11_isSign_9 : decode cX11_isSign 9 = .ok (.getfield 152, 3) := by decide +kernel
theorem dX11_isSign_12 : decode cX11_isSign 12 = .ok (.iload_n 1, 1) := by decide +kernel
theorem dX11_isSign_13 : decode cX11_isSign 13 = .ok (.if_icmp .ne 7, 3) := by decide +kernel
theorem dX11_isSign_16 : decode cX11_isSign 16 = .ok (.iconst 1, 1) := by decide +kernel
theorem dX11_isSign_17 : decode cX11_isSign 17 = .ok (.goto 4, 3) := by decide +kernel
theorem dX11_isSign_20 : decode cX11_isSign 20 = .ok (.iconst 0, 1) := by decide +kernel
theorem dX11_isSign_21 : decode cX11_isSign 21 = .ok (.ireturn, 1) := by decide +kernel
theorem dX11_isWord_0 : decode cX11_isWord 0 = .ok (.aload_n 0, 1) := by decide +kernel
theorem dX11_isWord_1 : decode cX11_isWord 1 = .ok (.getfield 155, 3) := by decide +kernel
theorem dX11_isWord_4 : decode cX11_isWord 4 = .ok (.iconst 4, 1) := by decide +kernel
theorem dX11_isWord_5 : decode cX11_isWord 5 = .ok (.if_icmp .ne 15, 3) := by decide +kernel
theorem dX11_isWord_8 : decode cX11_isWord 8 = .ok (.aload_n 0, 1) := by decide +kernel
theorem dX11_isWord_9 : decode cX11_isWord 9 = .ok (.getfield 152, 3) := by decide +kernel
theorem dX11_isWord_12 : decode cX11_isWord 12 = .ok (.iload_n 1, 1) := by decide +kernel
theorem dX11_isWord_13 : decode cX11_isWord 13 = .ok (.if_icmp .ne 7, 3) := by decide +kernel
theorem dX11_isWord_16 : decode cX11_isWord 16 = .ok (.iconst 1, 1) := by decide +kernel
theorem dX11_isWord_17 : decode cX11_isWord 17 = .ok (.goto 4, 3) := by decide +kernel
theorem dX11_isWord_20 : decode cX11_isWord 20 = .ok (.iconst 0, 1) := by decide +kernel
theorem dX11_isWord_21 : decode cX11_isWord 21 = .ok (.ireturn, 1) := by decide +kernel
theorem dX11_sign_0 : decode cX11_sign 0 = .ok (.aload_n 0, 1) := by decide +kernel
theorem dX11_sign_1 : decode cX11_sign 1 = .ok (.iload_n 1, 1) := by decide +kernel
theorem dX11_sign_2 : decode cX11_sign 2 = .ok (.invokevirtual 186, 3) := by decide +kernel
theorem dX11_sign_5 : decode cX11_sign 5 = .ok (.ifCond .eq 10, 3) := by decide +kernel
theorem dX11_sign_8 : decode cX11_sign 8 = .ok (.aload_n 0, 1) := by decide +kernel
theorem dX11_sign_9 : decode cX11_sign 9 = .ok (.invokevirtual 189, 3) := by decide +kernel
theorem dX11_sign_12 : decode cX11_sign 12 = .ok (.goto 12, 3) := by decide +kernel
theorem dX11_sign_15 : decode cX11_sign 15 = .ok (.aload_n 0, 1) := by decide +kernel
theorem dX11_sign_16 : decode cX11_sign 16 = .ok (.iconst 1, 1) := by decide +kernel
theorem dX11_sign_17 : decode cX11_sign 17 = .ok (.aload_n 0, 1) := by decide +kernel
theorem dX11_sign_18 : decode cX11_sign 18 = .ok (.getfield 149, 3) := by decide +kernel
theorem dX11_sign_21 : decode cX11_sign 21 = .ok (.invokevirtual 179, 3) := by decide +kernel
theorem dX11_sign_24 : decode cX11_sign 24 = .ok (.ireturn, 1) := by decide +kernel
theorem dX11_emit_0 : decode cX11_emit 0 = .ok (.aload_n 0, 1) := by decide +kernel
theorem dX11_emit_1 : decode cX11_emit 1 = .ok (.getfield 17, 3) := by decide +kernel
theorem dX11_emit_4 : decode cX11_emit 4 = .ok (.sipush 2600, 3) := by decide +kernel
theorem dX11_emit_7 : decode cX11_emit 7 = .ok (.aload_n 0, 1) := by decide +kernel
theorem dX11_emit_8 : decode cX11_emit 8 = .ok (.getfield 24, 3) := by decide +kernel
theorem dX11_emit_11 : decode cX11_emit 11 = .ok (.iconst 2, 1) := by decide +kernel
theorem dX11_emit_12 : decode cX11_emit 12 = .ok (.iaload, 1) := by decide +kernel
theorem dX11_emit_13 : decode cX11_emit 13 = .ok (.iadd, 1) := by decide +kernel
theorem dX11_emit_14 : decode cX11_emit 14 = .ok (.iload_n 1, 1) := by decide +kernel
theorem dX11_emit_15 : decode cX11_emit 15 = .ok (.iastore, 1) := by decide +kernel
theorem dX11_emit_16 : decode cX11_emit 16 = .ok (.aload_n 0, 1) := by decide +kernel
theorem dX11_emit_17 : decode cX11_emit 17 = .ok (.getfield 21, 3) := by decide +kernel
theorem dX11_emit_20 : decode cX11_emit 20 = .ok (.sipush 2600, 3) := by decide +kernel
theorem dX11_emit_23 : decode cX11_emit 23 = .ok (.aload_n 0, 1) := by decide +kernel
theorem dX11_emit_24 : decode cX11_emit 24 = .ok (.getfield 24, 3) := by decide +kernel
theorem dX11_emit_27 : decode cX11_emit 27 = .ok (.iconst 2, 1) := by decide +kernel
theorem dX11_emit_28 : decode cX11_emit 28 = .ok (.iaload, 1) := by decide +kernel
theorem dX11_emit_29 : decode cX11_emit 29 = .ok (.iadd, 1) := by decide +kernel
theorem dX11_emit_30 : decode cX11_emit 30 = .ok (.iload_n 2, 1) := by decide +kernel
theorem dX11_emit_31 : decode cX11_emit 31 = .ok (.iastore, 1) := by decide +kernel
theorem dX11_emit_32 : decode cX11_emit 32 = .ok (.aload_n 0, 1) := by decide +kernel
theorem dX11_emit_33 : decode cX11_emit 33 = .ok (.getfield 24, 3) := by decide +kernel
theorem dX11_emit_36 : decode cX11_emit 36 = .ok (.iconst 2, 1) := by decide +kernel
theorem dX11_emit_37 : decode cX11_emit 37 = .ok (.dup2, 1) := by decide +kernel
theorem dX11_emit_38 : decode cX11_emit 38 = .ok (.iaload, 1) := by decide +kernel
theorem dX11_emit_39 : decode cX11_emit 39 = .ok (.iconst 1, 1) := by decide +kernel
theorem dX11_emit_40 : decode cX11_emit 40 = .ok (.iadd, 1) := by decide +kernel
theorem dX11_emit_41 : decode cX11_emit 41 = .ok (.iastore, 1) := by decide +kernel
theorem dX11_emit_42 : decode cX11_emit 42 = .ok (.return_, 1) := by decide +kernel
theorem dX11_trait_0 : decode cX11_trait 0 = .ok (.iconst 0, 1) := by decide +kernel
theorem dX11_trait_1 : decode cX11_trait 1 = .ok (.istore_n 3, 1) := by decide +kernel
theorem dX11_trait_2 : decode cX11_trait 2 = .ok (.iload_n 3, 1) := by decide +kernel
theorem dX11_trait_3 : decode cX11_trait 3 = .ok (.aload_n 0, 1) := by decide +kernel
theorem dX11_trait_4 : decode cX11_trait 4 = .ok (.getfield 193, 3) := by decide +kernel
theorem dX11_trait_7 : decode cX11_trait 7 = .ok (.if_icmp .ge 22, 3) := by decide +kernel
theorem dX11_trait_10 : decode cX11_trait 10 = .ok (.aload_n 0, 1) := by decide +kernel
theorem dX11_trait_11 : decode cX11_trait 11 = .ok (.getfield 46, 3) := by decide +kernel
theorem dX11_trait_14 : decode cX11_trait 14 = .ok (.iload_n 3, 1) := by decide +kernel
theorem dX11_trait_15 : decode cX11_trait 15 = .ok (.laload, 1) := by decide +kernel
theorem dX11_trait_16 : decode cX11_trait 16 = .ok (.lload_n 1, 1) := by decide +kernel
theorem dX11_trait_17 : decode cX11_trait 17 = .ok (.lcmp, 1) := by decide +kernel
theorem dX11_trait_18 : decode cX11_trait 18 = .ok (.ifCond .ne 5, 3) := by decide +kernel
theorem dX11_trait_21 : decode cX11_trait 21 = .ok (.iload_n 3, 1) := by decide +kernel
theorem dX11_trait_22 : decode cX11_trait 22 = .ok (.ireturn, 1) := by decide +kernel
theorem dX11_trait_23 : decode cX11_trait 23 = .ok (.iinc 3 1, 3) := by decide +kernel
theorem dX11_trait_26 : decode cX11_trait 26 = .ok (.goto (-24), 3) := by decide +kernel
theorem dX11_trait_29 : decode cX11_trait 29 = .ok (.iconst (-1), 1) := by decide +kernel
theorem dX11_trait_30 : decode cX11_trait 30 = .ok (.ireturn, 1) := by decide +kernel
theorem dX11_isWaiting_0 : decode cX11_isWaiting 0 = .ok (.aload_n 0, 1) := by decide +kernel
theorem dX11_isWaiting_1 : decode cX11_isWaiting 1 = .ok (.getfield 196, 3) := by decide +kernel
theorem dX11_isWaiting_4 : decode cX11_isWaiting 4 = .ok (.ifCond .le 22, 3) := by decide +kernel
theorem dX11_isWaiting_7 : decode cX11_isWaiting 7 = .ok (.aload_n 0, 1) := by decide +kernel
theorem dX11_isWaiting_8 : decode cX11_isWaiting 8 = .ok (.getfield 83, 3) := by decide +kernel
theorem dX11_isWaiting_11 : decode cX11_isWaiting 11 = .ok (.aload_n 0, 1) := by decide +kernel
theorem dX11_isWaiting_12 : decode cX11_isWaiting 12 = .ok (.getfield 196, 3) := by decide +kernel
theorem dX11_isWaiting_15 : decode cX11_isWaiting 15 = .ok (.iconst 1, 1) := by decide +kernel
theorem dX11_isWaiting_16 : decode cX11_isWaiting 16 = .ok (.isub, 1) := by decide +kernel
theorem dX11_isWaiting_17 : decode cX11_isWaiting 17 = .ok (.iaload, 1) := by decide +kernel
theorem dX11_isWaiting_18 : decode cX11_isWaiting 18 = .ok (.iload_n 1, 1) := by decide +kernel
theorem dX11_isWaiting_19 : decode cX11_isWaiting 19 = .ok (.if_icmp .ne 7, 3) := by decide +kernel
theorem dX11_isWaiting_22 : decode cX11_isWaiting 22 = .ok (.iconst 1, 1) := by decide +kernel
theorem dX11_isWaiting_23 : decode cX11_isWaiting 23 = .ok (.goto 4, 3) := by decide +kernel
theorem dX11_isWaiting_26 : decode cX11_isWaiting 26 = .ok (.iconst 0, 1) := by decide +kernel
theorem dX11_isWaiting_27 : decode cX11_isWaiting 27 = .ok (.ireturn, 1) := by decide +kernel
theorem dX11_isJudging_0 : decode cX11_isJudging 0 = .ok (.aload_n 0, 1) := by decide +kernel
theorem dX11_isJudging_1 : decode cX11_isJudging 1 = .ok (.getfield 199, 3) := by decide +kernel
theorem dX11_isJudging_4 : decode cX11_isJudging 4 = .ok (.ifCond .le 22, 3) := by decide +kernel
theorem dX11_isJudging_7 : decode cX11_isJudging 7 = .ok (.aload_n 0, 1) := by decide +kernel
theorem dX11_isJudging_8 : decode cX11_isJudging 8 = .ok (.getfield 86, 3) := by decide +kernel
theorem dX11_isJudging_11 : decode cX11_isJudging 11 = .ok (.aload_n 0, 1) := by decide +kernel
theorem dX11_isJudging_12 : decode cX11_isJudging 12 = .ok (.getfield 199, 3) := by decide +kernel
theorem dX11_isJudging_15 : decode cX11_isJudging 15 = .ok (.iconst 1, 1) := by decide +kernel
theorem dX11_isJudging_16 : decode cX11_isJudging 16 = .ok (.isub, 1) := by decide +kernel
theorem dX11_isJudging_17 : decode cX11_isJudging 17 = .ok (.iaload, 1) := by decide +kernel
theorem dX11_isJudging_18 : decode cX11_isJudging 18 = .ok (.iload_n 1, 1) := by decide +kernel
theorem dX11_isJudging_19 : decode cX11_isJudging 19 = .ok (.if_icmp .ne 7, 3) := by decide +kernel
theorem dX11_isJudging_22 : decode cX11_isJudging 22 = .ok (.iconst 1, 1) := by decide +kernel
theorem dX11_isJudging_23 : decode cX11_isJudging 23 = .ok (.goto 4, 3) := by decide +kernel
theorem dX11_isJudging_26 : decode cX11_isJudging 26 = .ok (.iconst 0, 1) := by decide +kernel
theorem dX11_isJudging_27 : decode cX11_isJudging 27 = .ok (.ireturn, 1) := by decide +kernel
theorem dX11_settle_0 : decode cX11_settle 0 = .ok (.aload_n 0, 1) := by decide +kernel
theorem dX11_settle_1 : decode cX11_settle 1 = .ok (.dup, 1) := by decide +kernel
theorem dX11_settle_2 : decode cX11_settle 2 = .ok (.getfield 196, 3) := by decide +kernel
theorem dX11_settle_5 : decode cX11_settle 5 = .ok (.iconst 1, 1) := by decide +kernel
theorem dX11_settle_6 : decode cX11_settle 6 = .ok (.isub, 1) := by decide +kernel
theorem dX11_settle_7 : decode cX11_settle 7 = .ok (.putfield 196, 3) := by decide +kernel
theorem dX11_settle_10 : decode cX11_settle 10 = .ok (.aload_n 0, 1) := by decide +kernel
theorem dX11_settle_11 : decode cX11_settle 11 = .ok (.getfield 83, 3) := by decide +kernel
theorem dX11_settle_14 : decode cX11_settle 14 = .ok (.aload_n 0, 1) := by decide +kernel
theorem dX11_settle_15 : decode cX11_settle 15 = .ok (.getfield 196, 3) := by decide +kernel
theorem dX11_settle_18 : decode cX11_settle 18 = .ok (.iaload, 1) := by decide +kernel
theorem dX11_settle_19 : decode cX11_settle 19 = .ok (.istore_n 1, 1) := by decide +kernel
theorem dX11_settle_20 : decode cX11_settle 20 = .ok (.aload_n 0, 1) := by decide +kernel
theorem dX11_settle_21 : decode cX11_settle 21 = .ok (.iload_n 1, 1) := by decide +kernel
theorem dX11_settle_22 : decode cX11_settle 22 = .ok (.bipush 43, 2) := by decide +kernel
theorem dX11_settle_24 : decode cX11_settle 24 = .ok (.if_icmp .ne 7, 3) := by decide +kernel
theorem dX11_settle_27 : decode cX11_settle 27 = .ok (.iconst 3, 1) := by decide +kernel
theorem dX11_settle_28 : decode cX11_settle 28 = .ok (.goto 25, 3) := by decide +kernel
theorem dX11_settle_31 : decode cX11_settle 31 = .ok (.iload_n 1, 1) := by decide +kernel
theorem dX11_settle_32 : decode cX11_settle 32 = .ok (.bipush 45, 2) := by decide +kernel
theorem dX11_settle_34 : decode cX11_settle 34 = .ok (.if_icmp .ne 7, 3) := by decide +kernel
theorem dX11_settle_37 : decode cX11_settle 37 = .ok (.iconst 4, 1) := by decide +kernel
theorem dX11_settle_38 : decode cX11_settle 38 = .ok (.goto 15, 3) := by decide +kernel
theorem dX11_settle_41 : decode cX11_settle 41 = .ok (.iload_n 1, 1) := by decide +kernel
theorem dX11_settle_42 : decode cX11_settle 42 = .ok (.bipush 42, 2) := by decide +kernel
theorem dX11_settle_44 : decode cX11_settle 44 = .ok (.if_icmp .ne 7, 3) := by decide +kernel
theorem dX11_settle_47 : decode cX11_settle 47 = .ok (.iconst 5, 1) := by decide +kernel
theorem dX11_settle_48 : decode cX11_settle 48 = .ok (.goto 5, 3) := by decide +kernel
theorem dX11_settle_51 : decode cX11_settle 51 = .ok (.bipush 6, 2) := by decide +kernel
theorem dX11_settle_53 : decode cX11_settle 53 = .ok (.iconst 0, 1) := by decide +kernel
theorem dX11_settle_54 : decode cX11_settle 54 = .ok (.invokevirtual 202, 3) := by decide +kernel
theorem dX11_settle_57 : decode cX11_settle 57 = .ok (.return_, 1) := by decide +kernel
theorem dX11_unit_0 : decode cX11_unit 0 = .ok (.aload_n 0, 1) := by decide +kernel
theorem dX11_unit_1 : decode cX11_unit 1 = .ok (.getfield 155, 3) := by decide +kernel
theorem dX11_unit_4 : decode cX11_unit 4 = .ok (.iconst 2, 1) := by decide +kernel
theorem dX11_unit_5 : decode cX11_unit 5 = .ok (.if_icmp .ne 50, 3) := by decide +kernel
theorem dX11_unit_8 : decode cX11_unit 8 = .ok (.iconst 0, 1) := by decide +kernel
theorem dX11_unit_9 : decode cX11_unit 9 = .ok (.istore_n 1, 1) := by decide +kernel
theorem dX11_unit_10 : decode cX11_unit 10 = .ok (.aload_n 0, 1) := by decide +kernel
theorem dX11_unit_11 : decode cX11_unit 11 = .ok (.getfield 149, 3) := by decide +kernel
theorem dX11_unit_14 : decode cX11_unit 14 = .ok (.istore_n 2, 1) := by decide +kernel
theorem dX11_unit_15 : decode cX11_unit 15 = .ok (.iload_n 2, 1) := by decide +kernel
theorem dX11_unit_16 : decode cX11_unit 16 = .ok (.aload_n 0, 1) := by decide +kernel
theorem dX11_unit_17 : decode cX11_unit 17 = .ok (.getfield 146, 3) := by decide +kernel
theorem dX11_unit_20 : decode cX11_unit 20 = .ok (.if_icmp .ge 24, 3) := by decide +kernel
theorem dX11_unit_23 : decode cX11_unit 23 = .ok (.bipush 10, 2) := by decide +kernel
theorem dX11_unit_25 : decode cX11_unit 25 = .ok (.iload_n 1, 1) := by decide +kernel
theorem dX11_unit_26 : decode cX11_unit 26 = .ok (.imul, 1) := by decide +kernel
theorem dX11_unit_27 : decode cX11_unit 27 = .ok (.aload_n 0, 1) := by decide +kernel
theorem dX11_unit_28 : decode cX11_unit 28 = .ok (.getfield 7, 3) := by decide +kernel
theorem dX11_unit_31 : decode cX11_unit 31 = .ok (.iload_n 2, 1) := by decide +kernel
theorem dX11_unit_32 : decode cX11_unit 32 = .ok (.baload, 1) := by decide +kernel
theorem dX11_unit_33 : decode cX11_unit 33 = .ok (.iadd, 1) := by decide +kernel
theorem dX11_unit_34 : decode cX11_unit 34 = .ok (.bipush 48, 2) := by decide +kernel
theorem dX11_unit_36 : decode cX11_unit 36 = .ok (.isub, 1) := by decide +kernel
theorem dX11_unit_37 : decode cX11_unit 37 = .ok (.istore_n 1, 1) := by decide +kernel
theorem dX11_unit_38 : decode cX11_unit 38 = .ok (.iinc 2 1, 3) := by decide +kernel
theorem dX11_unit_41 : decode cX11_unit 41 = .ok (.goto (-26), 3) := by decide +kernel
theorem dX11_unit_44 : decode cX11_unit 44 = .ok (.aload_n 0, 1) := by decide +kernel
theorem dX11_unit_45 : decode cX11_unit 45 = .ok (.iconst 0, 1) := by decide +kernel
theorem dX11_unit_46 : decode cX11_unit 46 = .ok (.iload_n 1, 1) := by decide +kernel
theorem dX11_unit_47 : decode cX11_unit 47 = .ok (.invokevirtual 202, 3) := by decide +kernel
theorem dX11_unit_50 : decode cX11_unit 50 = .ok (.aload_n 0, 1) := by decide +kernel
theorem dX11_unit_51 : decode cX11_unit 51 = .ok (.invokevirtual 189, 3) := by decide +kernel
theorem dX11_unit_54 : decode cX11_unit 54 = .ok (.ireturn, 1) := by decide +kernel
theorem dX11_unit_55 : decode cX11_unit 55 = .ok (.aload_n 0, 1) := by decide +kernel
theorem dX11_unit_56 : decode cX11_unit 56 = .ok (.bipush 7, 2) := by decide +kernel
theorem dX11_unit_58 : decode cX11_unit 58 = .ok (.invokevirtual 206, 3) := by decide +kernel
theorem dX11_unit_61 : decode cX11_unit 61 = .ok (.ifCond .ne 22, 3) := by decide +kernel
theorem dX11_unit_64 : decode cX11_unit 64 = .ok (.aload_n 0, 1) := by decide +kernel
theorem dX11_unit_65 : decode cX11_unit 65 = .ok (.bipush 8, 2) := by decide +kernel
theorem dX11_unit_67 : decode cX11_unit 67 = .ok (.invokevirtual 206, 3) := by decide +kernel
theorem dX11_unit_70 : decode cX11_unit 70 = .ok (.ifCond .ne 13, 3) := by decide +kernel
theorem dX11_unit_73 : decode cX11_unit 73 = .ok (.aload_n 0, 1) := by decide +kernel
theorem dX11_unit_74 : decode cX11_unit 74 = .ok (.iconst 1, 1) := by decide +kernel
theorem dX11_unit_75 : decode cX11_unit 75 = .ok (.aload_n 0, 1) := by decide +kernel
theorem dX11_unit_76 : decode cX11_unit 76 = .ok (.getfield 149, 3) := by decide +kernel
theorem dX11_unit_79 : decode cX11_unit 79 = .ok (.invokevirtual 179, 3) := by decide +kernel
theorem dX11_unit_82 : decode cX11_unit 82 = .ok (.ireturn, 1) := by decide +kernel
theorem dX11_unit_83 : decode cX11_unit 83 = .ok (.aload_n 0, 1) := by decide +kernel
theorem dX11_unit_84 : decode cX11_unit 84 = .ok (.bipush 7, 2) := by decide +kernel
theorem dX11_unit_86 : decode cX11_unit 86 = .ok (.invokevirtual 206, 3) := by decide +kernel
theorem dX11_unit_89 : decode cX11_unit 89 = .ok (.ifCond .eq 7, 3) := by decide +kernel
theorem dX11_unit_92 : decode cX11_unit 92 = .ok (.iconst 1, 1) := by decide +kernel
theorem dX11_unit_93 : decode cX11_unit 93 = .ok (.goto 4, 3) := by decide +kernel
theorem dX11_unit_96 : decode cX11_unit 96 = .ok (.iconst 2, 1) := by decide +kernel
theorem dX11_unit_97 : decode cX11_unit 97 = .ok (.istore_n 1, 1) := by decide +kernel
theorem dX11_unit_98 : decode cX11_unit 98 = .ok (.aload_n 0, 1) := by decide +kernel
theorem dX11_unit_99 : decode cX11_unit 99 = .ok (.invokevirtual 189, 3) := by decide +kernel
theorem dX11_unit_102 : decode cX11_unit 102 = .ok (.ifCond .eq 12, 3) := by decide +kernel
theorem dX11_unit_105 : decode cX11_unit 105 = .ok (.aload_n 0, 1) := by decide +kernel
theorem dX11_unit_106 : decode cX11_unit 106 = .ok (.bipush 46, 2) := by decide +kernel
theorem dX11_unit_108 : decode cX11_unit 108 = .ok (.invokevirtual 209, 3) := by decide +kernel
theorem dX11_unit_111 : decode cX11_unit 111 = .ok (.ifCond .ne 5, 3) := by decide +kernel
theorem dX11_unit_114 : decode cX11_unit 114 = .ok (.iconst 0, 1) := by decide +kernel
theorem dX11_unit_115 : decode cX11_unit 115 = .ok (.ireturn, 1) := by decide +kernel
theorem dX11_unit_116 : decode cX11_unit 116 = .ok (.aload_n 0, 1) := by decide +kernel
theorem dX11_unit_117 : decode cX11_unit 117 = .ok (.getfield 155, 3) := by decide +kernel
theorem dX11_unit_120 : decode cX11_unit 120 = .ok (.iconst 1, 1) := by decide +kernel
theorem dX11_unit_121 : decode cX11_unit 121 = .ok (.if_icmp .eq 13, 3) := by decide +kernel
theorem dX11_unit_124 : decode cX11_unit 124 = .ok (.aload_n 0, 1) := by decide +kernel
theorem dX11_unit_125 : decode cX11_unit 125 = .ok (.iconst 1, 1) := by decide +kernel
theorem dX11_unit_126 : decode cX11_unit 126 = .ok (.aload_n 0, 1) := by decide +kernel
theorem dX11_unit_127 : decode cX11_unit 127 = .ok (.getfield 149, 3) := by decide +kernel
theorem dX11_unit_130 : decode cX11_unit 130 = .ok (.invokevirtual 179, 3) := by decide +kernel
theorem dX11_unit_133 : decode cX11_unit 133 = .ok (.ireturn, 1) := by decide +kernel
theorem dX11_unit_134 : decode cX11_unit 134 = .ok (.aload_n 0, 1) := by decide +kernel
theorem dX11_unit_135 : decode cX11_unit 135 = .ok (.aload_n 0, 1) := by decide +kernel
theorem dX11_unit_136 : decode cX11_unit 136 = .ok (.getfield 165, 3) := by decide +kernel
theorem dX11_unit_139 : decode cX11_unit 139 = .ok (.invokevirtual 212, 3) := by decide +kernel
theorem dX11_unit_142 : decode cX11_unit 142 = .ok (.istore_n 2, 1) := by decide +kernel
theorem dX11_unit_143 : decode cX11_unit 143 = .ok (.iload_n 2, 1) := by decide +kernel
theorem dX11_unit_144 : decode cX11_unit 144 = .ok (.ifCond .ge 12, 3) := by decide +kernel
theorem dX11_unit_147 : decode cX11_unit 147 = .ok (.aload_n 0, 1) := by decide +kernel
theorem dX11_unit_148 : decode cX11_unit 148 = .ok (.iconst 4, 1) := by decide +kernel
theorem dX11_unit_149 : decode cX11_unit 149 = .ok (.aload_n 0, 1) := by decide +kernel
theorem dX11_unit_150 : decode cX11_unit 150 = .ok (.getfield 149, 3) := by decide +kernel
theorem dX11_unit_153 : decode cX11_unit 153 = .ok (.invokevirtual 215, 3) := by decide +kernel
theorem dX11_unit_156 : decode cX11_unit 156 = .ok (.aload_n 0, 1) := by decide +kernel
theorem dX11_unit_157 : decode cX11_unit 157 = .ok (.iload_n 1, 1) := by decide +kernel
theorem dX11_unit_158 : decode cX11_unit 158 = .ok (.iload_n 2, 1) := by decide +kernel
theorem dX11_unit_159 : decode cX11_unit 159 = .ok (.ifCond .ge 7, 3) := by decide +kernel
theorem dX11_unit_162 : decode cX11_unit 162 = .ok (.iconst 0, 1) := by decide +kernel
theorem dX11_unit_163 : decode cX11_unit 163 = .ok (.goto 4, 3) := by decide +kernel
theorem dX11_unit_166 : decode cX11_unit 166 = .ok (.iload_n 2, 1) := by decide +kernel
theorem dX11_unit_167 : decode cX11_unit 167 = .ok (.invokevirtual 202, 3) := by decide +kernel
theorem dX11_unit_170 : decode cX11_unit 170 = .ok (.aload_n 0, 1) := by decide +kernel
theorem dX11_unit_171 : decode cX11_unit 171 = .ok (.invokevirtual 189, 3) := by decide +kernel
theorem dX11_unit_174 : decode cX11_unit 174 = .ok (.ireturn, 1) := by decide +kernel
theorem dX11_expression_0 : decode cX11_expression 0 = .ok (.aload_n 0, 1) := by decide +kernel
theorem dX11_expression_1 : decode cX11_expression 1 = .ok (.iconst 0, 1) := by decide +kernel
theorem dX11_expression_2 : decode cX11_expression 2 = .ok (.putfield 196, 3) := by decide +kernel
theorem dX11_expression_5 : decode cX11_expression 5 = .ok (.iconst 0, 1) := by decide +kernel
theorem dX11_expression_6 : decode cX11_expression 6 = .ok (.istore_n 1, 1) := by decide +kernel
theorem dX11_expression_7 : decode cX11_expression 7 = .ok (.iconst 1, 1) := by decide +kernel
theorem dX11_expression_8 : decode cX11_expression 8 = .ok (.istore_n 2, 1) := by decide +kernel
theorem dX11_expression_9 : decode cX11_expression 9 = .ok (.iconst 1, 1) := by decide +kernel
theorem dX11_expression_10 : decode cX11_expression 10 = .ok (.istore_n 3, 1) := by decide +kernel
theorem dX11_expression_11 : decode cX11_expression 11 = .ok (.iload_n 3, 1) := by decide +kernel
theorem dX11_expression_12 : decode cX11_expression 12 = .ok (.ifCond .eq 339, 3) := by decide +kernel
theorem dX11_expression_15 : decode cX11_expression 15 = .ok (.iconst 1, 1) := by decide +kernel
theorem dX11_expression_16 : decode cX11_expression 16 = .ok (.istore 4, 2) := by decide +kernel
theorem dX11_expression_18 : decode cX11_expression 18 = .ok (.iload 4, 2) := by decide +kernel
theorem dX11_expression_20 : decode cX11_expression 20 = .ok (.ifCond .eq 125, 3) := by decide +kernel
theorem dX11_expression_23 : decode cX11_expression 23 = .ok (.iload_n 2, 1) := by decide +kernel
theorem dX11_expression_24 : decode cX11_expression 24 = .ok (.ifCond .eq 42, 3) := by decide +kernel
theorem dX11_expression_27 : decode cX11_expression 27 = .ok (.aload_n 0, 1) := by decide +kernel
theorem dX11_expression_28 : decode cX11_expression 28 = .ok (.bipush 45, 2) := by decide +kernel
theorem dX11_expression_30 : decode cX11_expression 30 = .ok (.invokevirtual 186, 3) := by decide +kernel
theorem dX11_expression_33 : decode cX11_expression 33 = .ok (.ifCond .eq 33, 3) := by decide +kernel
theorem dX11_expression_36 : decode cX11_expression 36 = .ok (.aload_n 0, 1) := by decide +kernel
theorem dX11_expression_37 : decode cX11_expression 37 = .ok (.getfield 83, 3) := by decide +kernel
theorem dX11_expression_40 : decode cX11_expression 40 = .ok (.aload_n 0, 1) := by decide +kernel
theorem dX11_expression_41 : decode cX11_expression 41 = .ok (.getfield 196, 3) := by decide +kernel
theorem dX11_expression_44 : decode cX11_expression 44 = .ok (.bipush 110, 2) := by decide +kernel
theorem dX11_expression_46 : decode cX11_expression 46 = .ok (.iastore, 1) := by decide +kernel
theorem dX11_expression_47 : decode cX11_expression 47 = .ok (.aload_n 0, 1) := by decide +kernel
theorem dX11_expression_48 : decode cX11_expression 48 = .ok (.dup, 1) := by decide +kernel
theorem dX11_expression_49 : decode cX11_expression 49 = .ok (.getfield 196, 3) := by decide +kernel
theorem dX11_expression_52 : decode cX11_expression 52 = .ok (.iconst 1, 1) := by decide +kernel
theorem dX11_expression_53 : decode cX11_expression 53 = .ok (.iadd, 1) := by decide +kernel
theorem dX11_expression_54 : decode cX11_expression 54 = .ok (.putfield 196, 3) := by decide +kernel
theorem dX11_expression_57 : decode cX11_expression 57 = .ok (.aload_n 0, 1) := by decide +kernel
theorem dX11_expression_58 : decode cX11_expression 58 = .ok (.invokevirtual 189, 3) := by decide +kernel
theorem dX11_expression_61 : decode cX11_expression 61 = .ok (.ifCond .ne 5, 3) := by decide +kernel
theorem dX11_expression_64 : decode cX11_expression 64 = .ok (.iconst 0, 1) := by decide +kernel
theorem dX11_expression_65 : decode cX11_expression 65 = .ok (.ireturn, 1) := by decide +kernel
theorem dX11_expression_66 : decode cX11_expression 66 = .ok (.iconst 0, 1) := by decide +kernel
theorem dX11_expression_67 : decode cX11_expression 67 = .ok (.istore_n 2, 1) := by decide +kernel
theorem dX11_expression_68 : decode cX11_expression 68 = .ok (.aload_n 0, 1) := by decide +kernel
theorem dX11_expression_69 : decode cX11_expression 69 = .ok (.bipush 40, 2) := by decide +kernel
theorem dX11_expression_71 : decode cX11_expression 71 = .ok (.invokevirtual 186, 3) := by decide +kernel
theorem dX11_expression_74 : decode cX11_expression 74 = .ok (.istore 4, 2) := by decide +kernel
theorem dX11_expression_76 : decode cX11_expression 76 = .ok (.iload 4, 2) := by decide +kernel
theorem dX11_expression_78 : decode cX11_expression 78 = .ok (.ifCond .eq (-60), 3) := by decide +kernel
theorem dX11_expression_81 : decode cX11_expression 81 = .ok (.aload_n 0, 1) := by decide +kernel
theorem dX11_expression_82 : decode cX11_expression 82 = .ok (.getfield 218, 3) := by decide +kernel
theorem dX11_expression_85 : decode cX11_expression 85 = .ok (.bipush 8, 2) := by decide +kernel
theorem dX11_expression_87 : decode cX11_expression 87 = .ok (.if_icmp .ne 13, 3) := by decide +kernel
theorem dX11_expression_90 : decode cX11_expression 90 = .ok (.aload_n 0, 1) := by decide +kernel
theorem dX11_expression_91 : decode cX11_expression 91 = .ok (.iconst 2, 1) := by decide +kernel
theorem dX11_expression_92 : decode cX11_expression 92 = .ok (.aload_n 0, 1) := by decide +kernel
theorem dX11_expression_93 : decode cX11_expression 93 = .ok (.getfield 149, 3) := by decide +kernel
theorem dX11_expression_96 : decode cX11_expression 96 = .ok (.invokevirtual 179, 3) := by decide +kernel
theorem dX11_expression_99 : decode cX11_expression 99 = .ok (.ireturn, 1) := by decide +kernel
theorem dX11_expression_100 : decode cX11_expression 100 = .ok (.aload_n 0, 1) := by decide +kernel
theorem dX11_expression_101 : decode cX11_expression 101 = .ok (.dup, 1) := by decide +kernel
theorem dX11_expression_102 : decode cX11_expression 102 = .ok (.getfield 218, 3) := by decide +kernel
theorem dX11_expression_105 : decode cX11_expression 105 = .ok (.iconst 1, 1) := by decide +kernel
theorem dX11_expression_106 : decode cX11_expression 106 = .ok (.iadd, 1) := by decide +kernel
theorem dX11_expression_107 : decode cX11_expression 107 = .ok (.putfield 218, 3) := by decide +kernel
theorem dX11_expression_110 : decode cX11_expression 110 = .ok (.iinc 1 1, 3) := by decide +kernel
theorem dX11_expression_113 : decode cX11_expression 113 = .ok (.aload_n 0, 1) := by decide +kernel
theorem dX11_expression_114 : decode cX11_expression 114 = .ok (.getfield 83, 3) := by decide +kernel
theorem dX11_expression_117 : decode cX11_expression 117 = .ok (.aload_n 0, 1) := by decide +kernel
theorem dX11_expression_118 : decode cX11_expression 118 = .ok (.getfield 196, 3) := by decide +kernel
theorem dX11_expression_121 : decode cX11_expression 121 = .ok (.bipush 40, 2) := by decide +kernel
theorem dX11_expression_123 : decode cX11_expression 123 = .ok (.iastore, 1) := by decide +kernel
theorem dX11_expression_124 : decode cX11_expression 124 = .ok (.aload_n 0, 1) := by decide +kernel
theorem dX11_expression_125 : decode cX11_expression 125 = .ok (.dup, 1) := by decide +kernel
theorem dX11_expression_126 : decode cX11_expression 126 = .ok (.getfield 196, 3) := by decide +kernel
theorem dX11_expression_129 : decode cX11_expression 129 = .ok (.iconst 1, 1) := by decide +kernel
theorem dX11_expression_130 : decode cX11_expression 130 = .ok (.iadd, 1) := by decide +kernel
theorem dX11_expression_131 : decode cX11_expression 131 = .ok (.putfield 196, 3) := by decide +kernel
theorem dX11_expression_134 : decode cX11_expression 134 = .ok (.iconst 1, 1) := by decide +kernel
theorem dX11_expression_135 : decode cX11_expression 135 = .ok (.istore_n 2, 1) := by decide +kernel
theorem dX11_expression_136 : decode cX11_expression 136 = .ok (.aload_n 0, 1) := by decide +kernel
theorem dX11_expression_137 : decode cX11_expression 137 = .ok (.invokevirtual 189, 3) := by decide +kernel
theorem dX11_expression_140 : decode cX11_expression 140 = .ok (.ifCond .ne (-122), 3) := by decide +kernel
theorem dX11_expression_143 : decode cX11_expression 143 = .ok (.iconst 0, 1) := by decide +kernel
theorem dX11_expression_144 : decode cX11_expression 144 = .ok (.ireturn, 1) := by decide +kernel
theorem dX11_expression_145 : decode cX11_expression 145 = .ok (.aload_n 0, 1) := by decide +kernel
theorem dX11_expression_146 : decode cX11_expression 146 = .ok (.invokevirtual 221, 3) := by decide +kernel
theorem dX11_expression_149 : decode cX11_expression 149 = .ok (.ifCond .ne 5, 3) := by decide +kernel
theorem dX11_expression_152 : decode cX11_expression 152 = .ok (.iconst 0, 1) := by decide +kernel
theorem dX11_expression_153 : decode cX11_expression 153 = .ok (.ireturn, 1) := by decide +kernel
theorem dX11_expression_154 : decode cX11_expression 154 = .ok (.iload_n 1, 1) := by decide +kernel
theorem dX11_expression_155 : decode cX11_expression 155 = .ok (.ifCond .le 60, 3) := by decide +kernel
theorem dX11_expression_158 : decode cX11_expression 158 = .ok (.aload_n 0, 1) := by decide +kernel
theorem dX11_expression_159 : decode cX11_expression 159 = .ok (.bipush 41, 2) := by decide +kernel
theorem dX11_expression_161 : decode cX11_expression 161 = .ok (.invokevirtual 186, 3) := by decide +kernel
theorem dX11_expression_164 : decode cX11_expression 164 = .ok (.ifCond .eq 51, 3) := by decide +kernel
theorem dX11_expression_167 : decode cX11_expression 167 = .ok (.aload_n 0, 1) := by decide +kernel
theorem dX11_expression_168 : decode cX11_expression 168 = .ok (.bipush 40, 2) := by decide +kernel
theorem dX11_expression_170 : decode cX11_expression 170 = .ok (.invokevirtual 224, 3) := by decide +kernel
theorem dX11_expression_173 : decode cX11_expression 173 = .ok (.ifCond .ne 10, 3) := by decide +kernel
theorem dX11_expression_176 : decode cX11_expression 176 = .ok (.aload_n 0, 1) := by decide +kernel
theorem dX11_expression_177 : decode cX11_expression 177 = .ok (.invokevirtual 227, 3) := by decide +kernel
theorem dX11_expression_180 : decode cX11_expression 180 = .ok (.goto (-13), 3) := by decide +kernel
theorem dX11_expression_183 : decode cX11_expression 183 = .ok (.aload_n 0, 1) := by decide +kernel
theorem dX11_expression_184 : decode cX11_expression 184 = .ok (.dup, 1) := by decide +kernel
theorem dX11_expression_185 : decode cX11_expression 185 = .ok (.getfield 196, 3) := by decide +kernel
theorem dX11_expression_188 : decode cX11_expression 188 = .ok (.iconst 1, 1) := by decide +kernel
theorem dX11_expression_189 : decode cX11_expression 189 = .ok (.isub, 1) := by decide +kernel
theorem dX11_expression_190 : decode cX11_expression 190 = .ok (.putfield 196, 3) := by decide +kernel
theorem dX11_expression_193 : decode cX11_expression 193 = .ok (.iinc 1 (-1), 3) := by decide +kernel
theorem dX11_expression_196 : decode cX11_expression 196 = .ok (.aload_n 0, 1) := by decide +kernel
theorem dX11_expression_197 : decode cX11_expression 197 = .ok (.dup, 1) := by decide +kernel
theorem dX11_expression_198 : decode cX11_expression 198 = .ok (.getfield 218, 3) := by decide +kernel
theorem dX11_expression_201 : decode cX11_expression 201 = .ok (.iconst 1, 1) := by decide +kernel
theorem dX11_expression_202 : decode cX11_expression 202 = .ok (.isub, 1) := by decide +kernel
theorem dX11_expression_203 : decode cX11_expression 203 = .ok (.putfield 218, 3) := by decide +kernel
theorem dX11_expression_206 : decode cX11_expression 206 = .ok (.aload_n 0, 1) := by decide +kernel
theorem dX11_expression_207 : decode cX11_expression 207 = .ok (.invokevirtual 189, 3) := by decide +kernel
theorem dX11_expression_210 : decode cX11_expression 210 = .ok (.ifCond .ne (-56), 3) := by decide +kernel
theorem dX11_expression_213 : decode cX11_expression 213 = .ok (.iconst 0, 1) := by decide +kernel
theorem dX11_expression_214 : decode cX11_expression 214 = .ok (.ireturn, 1) := by decide +kernel
theorem dX11_expression_215 : decode cX11_expression 215 = .ok (.aload_n 0, 1) := by decide +kernel
theorem dX11_expression_216 : decode cX11_expression 216 = .ok (.bipush 43, 2) := by decide +kernel
theorem dX11_expression_218 : decode cX11_expression 218 = .ok (.invokevirtual 186, 3) := by decide +kernel
theorem dX11_expression_221 : decode cX11_expression 221 = .ok (.ifCond .ne 21, 3) := by decide +kernel
theorem dX11_expression_224 : decode cX11_expression 224 = .ok (.aload_n 0, 1) := by decide +kernel
theorem dX11_expression_225 : decode cX11_expression 225 = .ok (.bipush 45, 2) := by decide +kernel
theorem dX11_expression_227 : decode cX11_expression 227 = .ok (.invokevirtual 186, 3) := by decide +kernel
theorem dX11_expression_230 : decode cX11_expression 230 = .ok (.ifCond .ne 12, 3) := by decide +kernel
theorem dX11_expression_233 : decode cX11_expression 233 = .ok (.aload_n 0, 1) := by decide +kernel
theorem dX11_expression_234 : decode cX11_expression 234 = .ok (.bipush 42, 2) := by decide +kernel
theorem dX11_expression_236 : decode cX11_expression 236 = .ok (.invokevirtual 186, 3) := by decide +kernel
theorem dX11_expression_239 : decode cX11_expression 239 = .ok (.ifCond .eq 7, 3) := by decide +kernel
theorem dX11_expression_242 : decode cX11_expression 242 = .ok (.iconst 1, 1) := by decide +kernel
theorem dX11_expression_243 : decode cX11_expression 243 = .ok (.goto 4, 3) := by decide +kernel
theorem dX11_expression_246 : decode cX11_expression 246 = .ok (.iconst 0, 1) := by decide +kernel
theorem dX11_expression_247 : decode cX11_expression 247 = .ok (.istore_n 3, 1) := by decide +kernel
theorem dX11_expression_248 : decode cX11_expression 248 = .ok (.iload_n 3, 1) := by decide +kernel
theorem dX11_expression_249 : decode cX11_expression 249 = .ok (.ifCond .eq 99, 3) := by decide +kernel
theorem dX11_expression_252 : decode cX11_expression 252 = .ok (.aload_n 0, 1) := by decide +kernel
theorem dX11_expression_253 : decode cX11_expression 253 = .ok (.bipush 42, 2) := by decide +kernel
theorem dX11_expression_255 : decode cX11_expression 255 = .ok (.invokevirtual 186, 3) := by decide +kernel
theorem dX11_expression_258 : decode cX11_expression 258 = .ok (.ifCond .ne 7, 3) := by decide +kernel
theorem dX11_expression_261 : decode cX11_expression 261 = .ok (.iconst 1, 1) := by decide +kernel
theorem dX11_expression_262 : decode cX11_expression 262 = .ok (.goto 4, 3) := by decide +kernel
theorem dX11_expression_265 : decode cX11_expression 265 = .ok (.iconst 0, 1) := by decide +kernel
theorem dX11_expression_266 : decode cX11_expression 266 = .ok (.istore 5, 2) := by decide +kernel
theorem dX11_expression_268 : decode cX11_expression 268 = .ok (.aload_n 0, 1) := by decide +kernel
theorem dX11_expression_269 : decode cX11_expression 269 = .ok (.bipush 42, 2) := by decide +kernel
theorem dX11_expression_271 : decode cX11_expression 271 = .ok (.invokevirtual 224, 3) := by decide +kernel
theorem dX11_expression_274 : decode cX11_expression 274 = .ok (.ifCond .ne 35, 3) := by decide +kernel
theorem dX11_expression_277 : decode cX11_expression 277 = .ok (.iload 5, 2) := by decide +kernel
theorem dX11_expression_279 : decode cX11_expression 279 = .ok (.ifCond .eq 37, 3) := by decide +kernel
theorem dX11_expression_282 : decode cX11_expression 282 = .ok (.aload_n 0, 1) := by decide +kernel
theorem dX11_expression_283 : decode cX11_expression 283 = .ok (.bipush 43, 2) := by decide +kernel
theorem dX11_expression_285 : decode cX11_expression 285 = .ok (.invokevirtual 224, 3) := by decide +kernel
theorem dX11_expression_288 : decode cX11_expression 288 = .ok (.ifCond .ne 21, 3) := by decide +kernel
theorem dX11_expression_291 : decode cX11_expression 291 = .ok (.aload_n 0, 1) := by decide +kernel
theorem dX11_expression_292 : decode cX11_expression 292 = .ok (.bipush 45, 2) := by decide +kernel
theorem dX11_expression_294 : decode cX11_expression 294 = .ok (.invokevirtual 224, 3) := by decide +kernel
theorem dX11_expression_297 : decode cX11_expression 297 = .ok (.ifCond .ne 12, 3) := by decide +kernel
theorem dX11_expression_300 : decode cX11_expression 300 = .ok (.aload_n 0, 1) := by decide +kernel
theorem dX11_expression_301 : decode cX11_expression 301 = .ok (.bipush 110, 2) := by decide +kernel
theorem dX11_expression_303 : decode cX11_expression 303 = .ok (.invokevirtual 224, 3) := by decide +kernel
theorem dX11_expression_306 : decode cX11_expression 306 = .ok (.ifCond .eq 10, 3) := by decide +kernel
theorem dX11_expression_309 : decode cX11_expression 309 = .ok (.aload_n 0, 1) := by decide +kernel
theorem dX11_expression_310 : decode cX11_expression 310 = .ok (.invokevirtual 227, 3) := by decide +kernel
theorem dX11_expression_313 : decode cX11_expression 313 = .ok (.goto (-45), 3) := by decide +kernel
theorem dX11_expression_316 : decode cX11_expression 316 = .ok (.aload_n 0, 1) := by decide +kernel
theorem dX11_expression_317 : decode cX11_expression 317 = .ok (.getfield 83, 3) := by decide +kernel
theorem dX11_expression_320 : decode cX11_expression 320 = .ok (.aload_n 0, 1) := by decide +kernel
theorem dX11_expression_321 : decode cX11_expression 321 = .ok (.getfield 196, 3) := by decide +kernel
theorem dX11_expression_324 : decode cX11_expression 324 = .ok (.aload_n 0, 1) := by decide +kernel
theorem dX11_expression_325 : decode cX11_expression 325 = .ok (.getfield 152, 3) := by decide +kernel
theorem dX11_expression_328 : decode cX11_expression 328 = .ok (.iastore, 1) := by decide +kernel
theorem dX11_expression_329 : decode cX11_expression 329 = .ok (.aload_n 0, 1) := by decide +kernel
theorem dX11_expression_330 : decode cX11_expression 330 = .ok (.dup, 1) := by decide +kernel
theorem dX11_expression_331 : decode cX11_expression 331 = .ok (.getfield 196, 3) := by decide +kernel
theorem dX11_expression_334 : decode cX11_expression 334 = .ok (.iconst 1, 1) := by decide +kernel
theorem dX11_expression_335 : decode cX11_expression 335 = .ok (.iadd, 1) := by decide +kernel
theorem dX11_expression_336 : decode cX11_expression 336 = .ok (.putfield 196, 3) := by decide +kernel
theorem dX11_expression_339 : decode cX11_expression 339 = .ok (.aload_n 0, 1) := by decide +kernel
theorem dX11_expression_340 : decode cX11_expression 340 = .ok (.invokevirtual 189, 3) := by decide +kernel
theorem dX11_expression_343 : decode cX11_expression 343 = .ok (.ifCond .ne 5, 3) := by decide +kernel
theorem dX11_expression_346 : decode cX11_expression 346 = .ok (.iconst 0, 1) := by decide +kernel
theorem dX11_expression_347 : decode cX11_expression 347 = .ok (.ireturn, 1) := by decide +kernel
theorem dX11_expression_348 : decode cX11_expression 348 = .ok (.goto (-337), 3) := by decide +kernel
theorem dX11_expression_351 : decode cX11_expression 351 = .ok (.iload_n 1, 1) := by decide +kernel
theorem dX11_expression_352 : decode cX11_expression 352 = .ok (.ifCond .le 13, 3) := by decide +kernel
theorem dX11_expression_355 : decode cX11_expression 355 = .ok (.aload_n 0, 1) := by decide +kernel
theorem dX11_expression_356 : decode cX11_expression 356 = .ok (.iconst 1, 1) := by decide +kernel
theorem dX11_expression_357 : decode cX11_expression 357 = .ok (.aload_n 0, 1) := by decide +kernel
theorem dX11_expression_358 : decode cX11_expression 358 = .ok (.getfield 149, 3) := by decide +kernel
theorem dX11_expression_361 : decode cX11_expression 361 = .ok (.invokevirtual 179, 3) := by decide +kernel
theorem dX11_expression_364 : decode cX11_expression 364 = .ok (.ireturn, 1) := by decide +kernel
theorem dX11_expression_365 : decode cX11_expression 365 = .ok (.aload_n 0, 1) := by decide +kernel
theorem dX11_expression_366 : decode cX11_expression 366 = .ok (.getfield 196, 3) := by decide +kernel
theorem dX11_expression_369 : decode cX11_expression 369 = .ok (.ifCond .le 10, 3) := by decide +kernel
theorem dX11_expression_372 : decode cX11_expression 372 = .ok (.aload_n 0, 1) := by decide +kernel
theorem dX11_expression_373 : decode cX11_expression 373 = .ok (.invokevirtual 227, 3) := by decide +kernel
theorem dX11_expression_376 : decode cX11_expression 376 = .ok (.goto (-11), 3) := by decide +kernel
theorem dX11_expression_379 : decode cX11_expression 379 = .ok (.iconst 1, 1) := by decide +kernel
theorem dX11_expression_380 : decode cX11_expression 380 = .ok (.ireturn, 1) := by decide +kernel
theorem dX11_relation_0 : decode cX11_relation 0 = .ok (.aload_n 0, 1) := by decide +kernel
theorem dX11_relation_1 : decode cX11_relation 1 = .ok (.invokevirtual 230, 3) := by decide +kernel
theorem dX11_relation_4 : decode cX11_relation 4 = .ok (.ifCond .ne 5, 3) := by decide +kernel
theorem dX11_relation_7 : decode cX11_relation 7 = .ok (.iconst 0, 1) := by decide +kernel
theorem dX11_relation_8 : decode cX11_relation 8 = .ok (.ireturn, 1) := by decide +kernel
theorem dX11_relation_9 : decode cX11_relation 9 = .ok (.aload_n 0, 1) := by decide +kernel
theorem dX11_relation_10 : decode cX11_relation 10 = .ok (.getfield 155, 3) := by decide +kernel
theorem dX11_relation_13 : decode cX11_relation 13 = .ok (.iconst 3, 1) := by decide +kernel
theorem dX11_relation_14 : decode cX11_relation 14 = .ok (.if_icmp .ne 42, 3) := by decide +kernel
theorem dX11_relation_17 : decode cX11_relation 17 = .ok (.aload_n 0, 1) := by decide +kernel
theorem dX11_relation_18 : decode cX11_relation 18 = .ok (.getfield 152, 3) := by decide +kernel
theorem dX11_relation_21 : decode cX11_relation 21 = .ok (.sipush 256, 3) := by decide +kernel
theorem dX11_relation_24 : decode cX11_relation 24 = .ok (.if_icmp .eq 42, 3) := by decide +kernel
theorem dX11_relation_27 : decode cX11_relation 27 = .ok (.aload_n 0, 1) := by decide +kernel
theorem dX11_relation_28 : decode cX11_relation 28 = .ok (.getfield 152, 3) := by decide +kernel
theorem dX11_relation_31 : decode cX11_relation 31 = .ok (.sipush 257, 3) := by decide +kernel
theorem dX11_relation_34 : decode cX11_relation 34 = .ok (.if_icmp .eq 32, 3) := by decide +kernel
theorem dX11_relation_37 : decode cX11_relation 37 = .ok (.aload_n 0, 1) := by decide +kernel
theorem dX11_relation_38 : decode cX11_relation 38 = .ok (.getfield 152, 3) := by decide +kernel
theorem dX11_relation_41 : decode cX11_relation 41 = .ok (.sipush 258, 3) := by decide +kernel
theorem dX11_relation_44 : decode cX11_relation 44 = .ok (.if_icmp .eq 22, 3) := by decide +kernel
theorem dX11_relation_47 : decode cX11_relation 47 = .ok (.aload_n 0, 1) := by decide +kernel
theorem dX11_relation_48 : decode cX11_relation 48 = .ok (.getfield 152, 3) := by decide +kernel
theorem dX11_relation_51 : decode cX11_relation 51 = .ok (.bipush 60, 2) := by decide +kernel
theorem dX11_relation_53 : decode cX11_relation 53 = .ok (.if_icmp .eq 13, 3) := by decide +kernel
theorem dX11_relation_56 : decode cX11_relation 56 = .ok (.aload_n 0, 1) := by decide +kernel
theorem dX11_relation_57 : decode cX11_relation 57 = .ok (.iconst 1, 1) := by decide +kernel
theorem dX11_relation_58 : decode cX11_relation 58 = .ok (.aload_n 0, 1) := by decide +kernel
theorem dX11_relation_59 : decode cX11_relation 59 = .ok (.getfield 149, 3) := by decide +kernel
theorem dX11_relation_62 : decode cX11_relation 62 = .ok (.invokevirtual 179, 3) := by decide +kernel
theorem dX11_relation_65 : decode cX11_relation 65 = .ok (.ireturn, 1) := by decide +kernel
theorem dX11_relation_66 : decode cX11_relation 66 = .ok (.aload_n 0, 1) := by decide +kernel
theorem dX11_relation_67 : decode cX11_relation 67 = .ok (.getfield 152, 3) := by decide +kernel
theorem dX11_relation_70 : decode cX11_relation 70 = .ok (.sipush 256, 3) := by decide +kernel
theorem dX11_relation_73 : decode cX11_relation 73 = .ok (.if_icmp .ne 8, 3) := by decide +kernel
theorem dX11_relation_76 : decode cX11_relation 76 = .ok (.bipush 7, 2) := by decide +kernel
theorem dX11_relation_78 : decode cX11_relation 78 = .ok (.goto 35, 3) := by decide +kernel
theorem dX11_relation_81 : decode cX11_relation 81 = .ok (.aload_n 0, 1) := by decide +kernel
theorem dX11_relation_82 : decode cX11_relation 82 = .ok (.getfield 152, 3) := by decide +kernel
theorem dX11_relation_85 : decode cX11_relation 85 = .ok (.sipush 257, 3) := by decide +kernel
theorem dX11_relation_88 : decode cX11_relation 88 = .ok (.if_icmp .ne 8, 3) := by decide +kernel
theorem dX11_relation_91 : decode cX11_relation 91 = .ok (.bipush 8, 2) := by decide +kernel
theorem dX11_relation_93 : decode cX11_relation 93 = .ok (.goto 20, 3) := by decide +kernel
theorem dX11_relation_96 : decode cX11_relation 96 = .ok (.aload_n 0, 1) := by decide +kernel
theorem dX11_relation_97 : decode cX11_relation 97 = .ok (.getfield 152, 3) := by decide +kernel
theorem dX11_relation_100 : decode cX11_relation 100 = .ok (.sipush 258, 3) := by decide +kernel
theorem dX11_relation_103 : decode cX11_relation 103 = .ok (.if_icmp .ne 8, 3) := by decide +kernel
theorem dX11_relation_106 : decode cX11_relation 106 = .ok (.bipush 10, 2) := by decide +kernel
theorem dX11_relation_108 : decode cX11_relation 108 = .ok (.goto 5, 3) := by decide +kernel
theorem dX11_relation_111 : decode cX11_relation 111 = .ok (.bipush 9, 2) := by decide +kernel
theorem dX11_relation_113 : decode cX11_relation 113 = .ok (.istore_n 1, 1) := by decide +kernel
theorem dX11_relation_114 : decode cX11_relation 114 = .ok (.aload_n 0, 1) := by decide +kernel
theorem dX11_relation_115 : decode cX11_relation 115 = .ok (.invokevirtual 189, 3) := by decide +kernel
theorem dX11_relation_118 : decode cX11_relation 118 = .ok (.ifCond .eq 10, 3) := by decide +kernel
theorem dX11_relation_121 : decode cX11_relation 121 = .ok (.aload_n 0, 1) := by decide +kernel
theorem dX11_relation_122 : decode cX11_relation 122 = .ok (.invokevirtual 230, 3) := by decide +kernel
theorem dX11_relation_125 : decode cX11_relation 125 = .ok (.ifCond .ne 5, 3) := by decide +kernel
theorem dX11_relation_128 : decode cX11_relation 128 = .ok (.iconst 0, 1) := by decide +kernel
theorem dX11_relation_129 : decode cX11_relation 129 = .ok (.ireturn, 1) := by decide +kernel
theorem dX11_relation_130 : decode cX11_relation 130 = .ok (.aload_n 0, 1) := by decide +kernel
theorem dX11_relation_131 : decode cX11_relation 131 = .ok (.iload_n 1, 1) := by decide +kernel
theorem dX11_relation_132 : decode cX11_relation 132 = .ok (.iconst 0, 1) := by decide +kernel
theorem dX11_relation_133 : decode cX11_relation 133 = .ok (.invokevirtual 202, 3) := by decide +kernel
theorem dX11_relation_136 : decode cX11_relation 136 = .ok (.iconst 1, 1) := by decide +kernel
theorem dX11_relation_137 : decode cX11_relation 137 = .ok (.ireturn, 1) := by decide +kernel
theorem dX11_judge_0 : decode cX11_judge 0 = .ok (.aload_n 0, 1) := by decide +kernel
theorem dX11_judge_1 : decode cX11_judge 1 = .ok (.dup, 1) := by decide +kernel
theorem dX11_judge_2 : decode cX11_judge 2 = .ok (.getfield 199, 3) := by decide +kernel
theorem dX11_judge_5 : decode cX11_judge 5 = .ok (.iconst 1, 1) := by decide +kernel
theorem dX11_judge_6 : decode cX11_judge 6 = .ok (.isub, 1) := by decide +kernel
theorem dX11_judge_7 : decode cX11_judge 7 = .ok (.putfield 199, 3) := by decide +kernel
theorem dX11_judge_10 : decode cX11_judge 10 = .ok (.aload_n 0, 1) := by decide +kernel
theorem dX11_judge_11 : decode cX11_judge 11 = .ok (.getfield 86, 3) := by decide +kernel
theorem dX11_judge_14 : decode cX11_judge 14 = .ok (.aload_n 0, 1) := by decide +kernel
theorem dX11_judge_15 : decode cX11_judge 15 = .ok (.getfield 199, 3) := by decide +kernel
theorem dX11_judge_18 : decode cX11_judge 18 = .ok (.iaload, 1) := by decide +kernel
theorem dX11_judge_19 : decode cX11_judge 19 = .ok (.istore_n 1, 1) := by decide +kernel
theorem dX11_judge_20 : decode cX11_judge 20 = .ok (.iload_n 1, 1) := by decide +kernel
theorem dX11_judge_21 : decode cX11_judge 21 = .ok (.bipush 6, 2) := by decide +kernel
theorem dX11_judge_23 : decode cX11_judge 23 = .ok (.if_icmp .ne 13, 3) := by decide +kernel
theorem dX11_judge_26 : decode cX11_judge 26 = .ok (.aload_n 0, 1) := by decide +kernel
theorem dX11_judge_27 : decode cX11_judge 27 = .ok (.dup, 1) := by decide +kernel
theorem dX11_judge_28 : decode cX11_judge 28 = .ok (.getfield 218, 3) := by decide +kernel
theorem dX11_judge_31 : decode cX11_judge 31 = .ok (.iconst 1, 1) := by decide +kernel
theorem dX11_judge_32 : decode cX11_judge 32 = .ok (.isub, 1) := by decide +kernel
theorem dX11_judge_33 : decode cX11_judge 33 = .ok (.putfield 218, 3) := by decide +kernel
theorem dX11_judge_36 : decode cX11_judge 36 = .ok (.aload_n 0, 1) := by decide +kernel
theorem dX11_judge_37 : decode cX11_judge 37 = .ok (.iload_n 1, 1) := by decide +kernel
theorem dX11_judge_38 : decode cX11_judge 38 = .ok (.bipush 6, 2) := by decide +kernel
theorem dX11_judge_40 : decode cX11_judge 40 = .ok (.if_icmp .ne 8, 3) := by decide +kernel
theorem dX11_judge_43 : decode cX11_judge 43 = .ok (.bipush 13, 2) := by decide +kernel
theorem dX11_judge_45 : decode cX11_judge 45 = .ok (.goto 15, 3) := by decide +kernel
theorem dX11_judge_48 : decode cX11_judge 48 = .ok (.iload_n 1, 1) := by decide +kernel
theorem dX11_judge_49 : decode cX11_judge 49 = .ok (.iconst 5, 1) := by decide +kernel
theorem dX11_judge_50 : decode cX11_judge 50 = .ok (.if_icmp .ne 8, 3) := by decide +kernel
theorem dX11_judge_53 : decode cX11_judge 53 = .ok (.bipush 11, 2) := by decide +kernel
theorem dX11_judge_55 : decode cX11_judge 55 = .ok (.goto 5, 3) := by decide +kernel
theorem dX11_judge_58 : decode cX11_judge 58 = .ok (.bipush 12, 2) := by decide +kernel
theorem dX11_judge_60 : decode cX11_judge 60 = .ok (.iconst 0, 1) := by decide +kernel
theorem dX11_judge_61 : decode cX11_judge 61 = .ok (.invokevirtual 202, 3) := by decide +kernel
theorem dX11_judge_64 : decode cX11_judge 64 = .ok (.return_, 1) := by decide +kernel
theorem dX11_condition_0 : decode cX11_condition 0 = .ok (.aload_n 0, 1) := by decide +kernel
theorem dX11_condition_1 : decode cX11_condition 1 = .ok (.iconst 0, 1) := by decide +kernel
theorem dX11_condition_2 : decode cX11_condition 2 = .ok (.putfield 199, 3) := by decide +kernel
theorem dX11_condition_5 : decode cX11_condition 5 = .ok (.iconst 0, 1) := by decide +kernel
theorem dX11_condition_6 : decode cX11_condition 6 = .ok (.istore_n 1, 1) := by decide +kernel
theorem dX11_condition_7 : decode cX11_condition 7 = .ok (.iconst 1, 1) := by decide +kernel
theorem dX11_condition_8 : decode cX11_condition 8 = .ok (.istore_n 2, 1) := by decide +kernel
theorem dX11_condition_9 : decode cX11_condition 9 = .ok (.iload_n 2, 1) := by decide +kernel
theorem dX11_condition_10 : decode cX11_condition 10 = .ok (.ifCond .eq 302, 3) := by decide +kernel
theorem dX11_condition_13 : decode cX11_condition 13 = .ok (.aload_n 0, 1) := by decide +kernel
theorem dX11_condition_14 : decode cX11_condition 14 = .ok (.bipush 6, 2) := by decide +kernel
theorem dX11_condition_16 : decode cX11_condition 16 = .ok (.invokevirtual 206, 3) := by decide +kernel
theorem dX11_condition_19 : decode cX11_condition 19 = .ok (.ifCond .ne 12, 3) := by decide +kernel
theorem dX11_condition_22 : decode cX11_condition 22 = .ok (.aload_n 0, 1) := by decide +kernel
theorem dX11_condition_23 : decode cX11_condition 23 = .ok (.bipush 91, 2) := by decide +kernel
theorem dX11_condition_25 : decode cX11_condition 25 = .ok (.invokevirtual 186, 3) := by decide +kernel
theorem dX11_condition_28 : decode cX11_condition 28 = .ok (.ifCond .eq 93, 3) := by decide +kernel
theorem dX11_condition_31 : decode cX11_condition 31 = .ok (.aload_n 0, 1) := by decide +kernel
theorem dX11_condition_32 : decode cX11_condition 32 = .ok (.getfield 218, 3) := by decide +kernel
theorem dX11_condition_35 : decode cX11_condition 35 = .ok (.bipush 8, 2) := by decide +kernel
theorem dX11_condition_37 : decode cX11_condition 37 = .ok (.if_icmp .ne 13, 3) := by decide +kernel
theorem dX11_condition_40 : decode cX11_condition 40 = .ok (.aload_n 0, 1) := by decide +kernel
theorem dX11_condition_41 : decode cX11_condition 41 = .ok (.iconst 2, 1) := by decide +kernel
theorem dX11_condition_42 : decode cX11_condition 42 = .ok (.aload_n 0, 1) := by decide +kernel
theorem dX11_condition_43 : decode cX11_condition 43 = .ok (.getfield 149, 3) := by decide +kernel
theorem dX11_condition_46 : decode cX11_condition 46 = .ok (.invokevirtual 179, 3) := by decide +kernel
theorem dX11_condition_49 : decode cX11_condition 49 = .ok (.ireturn, 1) := by decide +kernel
theorem dX11_condition_50 : decode cX11_condition 50 = .ok (.aload_n 0, 1) := by decide +kernel
theorem dX11_condition_51 : decode cX11_condition 51 = .ok (.dup, 1) := by decide +kernel
theorem dX11_condition_52 : decode cX11_condition 52 = .ok (.getfield 218, 3) := by decide +kernel
theorem dX11_condition_55 : decode cX11_condition 55 = .ok (.iconst 1, 1) := by decide +kernel
theorem dX11_condition_56 : decode cX11_condition 56 = .ok (.iadd, 1) := by decide +kernel
theorem dX11_condition_57 : decode cX11_condition 57 = .ok (.putfield 218, 3) := by decide +kernel
theorem dX11_condition_60 : decode cX11_condition 60 = .ok (.aload_n 0, 1) := by decide +kernel
theorem dX11_condition_61 : decode cX11_condition 61 = .ok (.bipush 91, 2) := by decide +kernel
theorem dX11_condition_63 : decode cX11_condition 63 = .ok (.invokevirtual 186, 3) := by decide +kernel
theorem dX11_condition_66 : decode cX11_condition 66 = .ok (.ifCond .eq 9, 3) := by decide +kernel
theorem dX11_condition_69 : decode cX11_condition 69 = .ok (.iload_n 1, 1) := by decide +kernel
theorem dX11_condition_70 : decode cX11_condition 70 = .ok (.iconst 1, 1) := by decide +kernel
theorem dX11_condition_71 : decode cX11_condition 71 = .ok (.iadd, 1) := by decide +kernel
theorem dX11_condition_72 : decode cX11_condition 72 = .ok (.goto 4, 3) := by decide +kernel
theorem dX11_condition_75 : decode cX11_condition 75 = .ok (.iload_n 1, 1) := by decide +kernel
theorem dX11_condition_76 : decode cX11_condition 76 = .ok (.istore_n 1, 1) := by decide +kernel
theorem dX11_condition_77 : decode cX11_condition 77 = .ok (.aload_n 0, 1) := by decide +kernel
theorem dX11_condition_78 : decode cX11_condition 78 = .ok (.getfield 86, 3) := by decide +kernel
theorem dX11_condition_81 : decode cX11_condition 81 = .ok (.aload_n 0, 1) := by decide +kernel
theorem dX11_condition_82 : decode cX11_condition 82 = .ok (.getfield 199, 3) := by decide +kernel
theorem dX11_condition_85 : decode cX11_condition 85 = .ok (.aload_n 0, 1) := by decide +kernel
theorem dX11_condition_86 : decode cX11_condition 86 = .ok (.bipush 91, 2) := by decide +kernel
theorem dX11_condition_88 : decode cX11_condition 88 = .ok (.invokevirtual 186, 3) := by decide +kernel
theorem dX11_condition_91 : decode cX11_condition 91 = .ok (.ifCond .eq 8, 3) := by decide +kernel
theorem dX11_condition_94 : decode cX11_condition 94 = .ok (.bipush 91, 2) := by decide +kernel
theorem dX11_condition_96 : decode cX11_condition 96 = .ok (.goto 5, 3) := by decide +kernel
theorem dX11_condition_99 : decode cX11_condition 99 = .ok (.bipush 6, 2) := by decide +kernel
theorem dX11_condition_101 : decode cX11_condition 101 = .ok (.iastore, 1) := by decide +kernel
theorem dX11_condition_102 : decode cX11_condition 102 = .ok (.aload_n 0, 1) := by decide +kernel
theorem dX11_condition_103 : decode cX11_condition 103 = .ok (.dup, 1) := by decide +kernel
theorem dX11_condition_104 : decode cX11_condition 104 = .ok (.getfield 199, 3) := by decide +kernel
theorem dX11_condition_107 : decode cX11_condition 107 = .ok (.iconst 1, 1) := by decide +kernel
theorem dX11_condition_108 : decode cX11_condition 108 = .ok (.iadd, 1) := by decide +kernel
theorem dX11_condition_109 : decode cX11_condition 109 = .ok (.putfield 199, 3) := by decide +kernel
theorem dX11_condition_112 : decode cX11_condition 112 = .ok (.aload_n 0, 1) := by decide +kernel
theorem dX11_condition_113 : decode cX11_condition 113 = .ok (.invokevirtual 189, 3) := by decide +kernel
theorem dX11_condition_116 : decode cX11_condition 116 = .ok (.ifCond .ne (-103), 3) := by decide +kernel
theorem dX11_condition_119 : decode cX11_condition 119 = .ok (.iconst 0, 1) := by decide +kernel
theorem dX11_condition_120 : decode cX11_condition 120 = .ok (.ireturn, 1) := by decide +kernel
theorem dX11_condition_121 : decode cX11_condition 121 = .ok (.aload_n 0, 1) := by decide +kernel
theorem dX11_condition_122 : decode cX11_condition 122 = .ok (.invokevirtual 233, 3) := by decide +kernel
theorem dX11_condition_125 : decode cX11_condition 125 = .ok (.ifCond .ne 5, 3) := by decide +kernel
theorem dX11_condition_128 : decode cX11_condition 128 = .ok (.iconst 0, 1) := by decide +kernel
theorem dX11_condition_129 : decode cX11_condition 129 = .ok (.ireturn, 1) := by decide +kernel
theorem dX11_condition_130 : decode cX11_condition 130 = .ok (.aload_n 0, 1) := by decide +kernel
theorem dX11_condition_131 : decode cX11_condition 131 = .ok (.bipush 6, 2) := by decide +kernel
theorem dX11_condition_133 : decode cX11_condition 133 = .ok (.invokevirtual 236, 3) := by decide +kernel
theorem dX11_condition_136 : decode cX11_condition 136 = .ok (.ifCond .eq 10, 3) := by decide +kernel
theorem dX11_condition_139 : decode cX11_condition 139 = .ok (.aload_n 0, 1) := by decide +kernel
theorem dX11_condition_140 : decode cX11_condition 140 = .ok (.invokevirtual 239, 3) := by decide +kernel
theorem dX11_condition_143 : decode cX11_condition 143 = .ok (.goto (-13), 3) := by decide +kernel
theorem dX11_condition_146 : decode cX11_condition 146 = .ok (.iload_n 1, 1) := by decide +kernel
theorem dX11_condition_147 : decode cX11_condition 147 = .ok (.ifCond .le 76, 3) := by decide +kernel
theorem dX11_condition_150 : decode cX11_condition 150 = .ok (.aload_n 0, 1) := by decide +kernel
theorem dX11_condition_151 : decode cX11_condition 151 = .ok (.bipush 93, 2) := by decide +kernel
theorem dX11_condition_153 : decode cX11_condition 153 = .ok (.invokevirtual 186, 3) := by decide +kernel
theorem dX11_condition_156 : decode cX11_condition 156 = .ok (.ifCond .eq 67, 3) := by decide +kernel
theorem dX11_condition_159 : decode cX11_condition 159 = .ok (.aload_n 0, 1) := by decide +kernel
theorem dX11_condition_160 : decode cX11_condition 160 = .ok (.bipush 91, 2) := by decide +kernel
theorem dX11_condition_162 : decode cX11_condition 162 = .ok (.invokevirtual 236, 3) := by decide +kernel
theorem dX11_condition_165 : decode cX11_condition 165 = .ok (.ifCond .ne 10, 3) := by decide +kernel
theorem dX11_condition_168 : decode cX11_condition 168 = .ok (.aload_n 0, 1) := by decide +kernel
theorem dX11_condition_169 : decode cX11_condition 169 = .ok (.invokevirtual 239, 3) := by decide +kernel
theorem dX11_condition_172 : decode cX11_condition 172 = .ok (.goto (-13), 3) := by decide +kernel
theorem dX11_condition_175 : decode cX11_condition 175 = .ok (.aload_n 0, 1) := by decide +kernel
theorem dX11_condition_176 : decode cX11_condition 176 = .ok (.dup, 1) := by decide +kernel
theorem dX11_condition_177 : decode cX11_condition 177 = .ok (.getfield 199, 3) := by decide +kernel
theorem dX11_condition_180 : decode cX11_condition 180 = .ok (.iconst 1, 1) := by decide +kernel
theorem dX11_condition_181 : decode cX11_condition 181 = .ok (.isub, 1) := by decide +kernel
theorem dX11_condition_182 : decode cX11_condition 182 = .ok (.putfield 199, 3) := by decide +kernel
theorem dX11_condition_185 : decode cX11_condition 185 = .ok (.iinc 1 (-1), 3) := by decide +kernel
theorem dX11_condition_188 : decode cX11_condition 188 = .ok (.aload_n 0, 1) := by decide +kernel
theorem dX11_condition_189 : decode cX11_condition 189 = .ok (.dup, 1) := by decide +kernel
theorem dX11_condition_190 : decode cX11_condition 190 = .ok (.getfield 218, 3) := by decide +kernel
theorem dX11_condition_193 : decode cX11_condition 193 = .ok (.iconst 1, 1) := by decide +kernel
theorem dX11_condition_194 : decode cX11_condition 194 = .ok (.isub, 1) := by decide +kernel
theorem dX11_condition_195 : decode cX11_condition 195 = .ok (.putfield 218, 3) := by decide +kernel
theorem dX11_condition_198 : decode cX11_condition 198 = .ok (.aload_n 0, 1) := by decide +kernel
theorem dX11_condition_199 : decode cX11_condition 199 = .ok (.invokevirtual 189, 3) := by decide +kernel
theorem dX11_condition_202 : decode cX11_condition 202 = .ok (.ifCond .ne 5, 3) := by decide +kernel
theorem dX11_condition_205 : decode cX11_condition 205 = .ok (.iconst 0, 1) := by decide +kernel
theorem dX11_condition_206 : decode cX11_condition 206 = .ok (.ireturn, 1) := by decide +kernel
theorem dX11_condition_207 : decode cX11_condition 207 = .ok (.aload_n 0, 1) := by decide +kernel
theorem dX11_condition_208 : decode cX11_condition 208 = .ok (.bipush 6, 2) := by decide +kernel
theorem dX11_condition_210 : decode cX11_condition 210 = .ok (.invokevirtual 236, 3) := by decide +kernel
theorem dX11_condition_213 : decode cX11_condition 213 = .ok (.ifCond .eq (-67), 3) := by decide +kernel
theorem dX11_condition_216 : decode cX11_condition 216 = .ok (.aload_n 0, 1) := by decide +kernel
theorem dX11_condition_217 : decode cX11_condition 217 = .ok (.invokevirtual 239, 3) := by decide +kernel
theorem dX11_condition_220 : decode cX11_condition 220 = .ok (.goto (-13), 3) := by decide +kernel
theorem dX11_condition_223 : decode cX11_condition 223 = .ok (.aload_n 0, 1) := by decide +kernel
theorem dX11_condition_224 : decode cX11_condition 224 = .ok (.iconst 4, 1) := by decide +kernel
theorem dX11_condition_225 : decode cX11_condition 225 = .ok (.invokevirtual 206, 3) := by decide +kernel
theorem dX11_condition_228 : decode cX11_condition 228 = .ok (.ifCond .ne 11, 3) := by decide +kernel
theorem dX11_condition_231 : decode cX11_condition 231 = .ok (.aload_n 0, 1) := by decide +kernel
theorem dX11_condition_232 : decode cX11_condition 232 = .ok (.iconst 5, 1) := by decide +kernel
theorem dX11_condition_233 : decode cX11_condition 233 = .ok (.invokevirtual 206, 3) := by decide +kernel
theorem dX11_condition_236 : decode cX11_condition 236 = .ok (.ifCond .eq 7, 3) := by decide +kernel
theorem dX11_condition_239 : decode cX11_condition 239 = .ok (.iconst 1, 1) := by decide +kernel
theorem dX11_condition_240 : decode cX11_condition 240 = .ok (.goto 4, 3) := by decide +kernel
theorem dX11_condition_243 : decode cX11_condition 243 = .ok (.iconst 0, 1) := by decide +kernel
theorem dX11_condition_244 : decode cX11_condition 244 = .ok (.istore_n 2, 1) := by decide +kernel
theorem dX11_condition_245 : decode cX11_condition 245 = .ok (.iload_n 2, 1) := by decide +kernel
theorem dX11_condition_246 : decode cX11_condition 246 = .ok (.ifCond .eq (-237), 3) := by decide +kernel
theorem dX11_condition_249 : decode cX11_condition 249 = .ok (.aload_n 0, 1) := by decide +kernel
theorem dX11_condition_250 : decode cX11_condition 250 = .ok (.iconst 5, 1) := by decide +kernel
theorem dX11_condition_251 : decode cX11_condition 251 = .ok (.invokevirtual 236, 3) := by decide +kernel
theorem dX11_condition_254 : decode cX11_condition 254 = .ok (.ifCond .ne 19, 3) := by decide +kernel
theorem dX11_condition_257 : decode cX11_condition 257 = .ok (.aload_n 0, 1) := by decide +kernel
theorem dX11_condition_258 : decode cX11_condition 258 = .ok (.iconst 4, 1) := by decide +kernel
theorem dX11_condition_259 : decode cX11_condition 259 = .ok (.invokevirtual 206, 3) := by decide +kernel
theorem dX11_condition_262 : decode cX11_condition 262 = .ok (.ifCond .eq 18, 3) := by decide +kernel
theorem dX11_condition_265 : decode cX11_condition 265 = .ok (.aload_n 0, 1) := by decide +kernel
theorem dX11_condition_266 : decode cX11_condition 266 = .ok (.iconst 4, 1) := by decide +kernel
theorem dX11_condition_267 : decode cX11_condition 267 = .ok (.invokevirtual 236, 3) := by decide +kernel
theorem dX11_condition_270 : decode cX11_condition 270 = .ok (.ifCond .eq 10, 3) := by decide +kernel
theorem dX11_condition_273 : decode cX11_condition 273 = .ok (.aload_n 0, 1) := by decide +kernel
theorem dX11_condition_274 : decode cX11_condition 274 = .ok (.invokevirtual 239, 3) := by decide +kernel
theorem dX11_condition_277 : decode cX11_condition 277 = .ok (.goto (-28), 3) := by decide +kernel
theorem dX11_condition_280 : decode cX11_condition 280 = .ok (.aload_n 0, 1) := by decide +kernel
theorem dX11_condition_281 : decode cX11_condition 281 = .ok (.getfield 86, 3) := by decide +kernel
theorem dX11_condition_284 : decode cX11_condition 284 = .ok (.aload_n 0, 1) := by decide +kernel
theorem dX11_condition_285 : decode cX11_condition 285 = .ok (.getfield 199, 3) := by decide +kernel
theorem dX11_condition_288 : decode cX11_condition 288 = .ok (.aload_n 0, 1) := by decide +kernel
theorem dX11_condition_289 : decode cX11_condition 289 = .ok (.getfield 152, 3) := by decide +kernel
theorem dX11_condition_292 : decode cX11_condition 292 = .ok (.iastore, 1) := by decide +kernel
theorem dX11_condition_293 : decode cX11_condition 293 = .ok (.aload_n 0, 1) := by decide +kernel
theorem dX11_condition_294 : decode cX11_condition 294 = .ok (.dup, 1) := by decide +kernel
theorem dX11_condition_295 : decode cX11_condition 295 = .ok (.getfield 199, 3) := by decide +kernel
theorem dX11_condition_298 : decode cX11_condition 298 = .ok (.iconst 1, 1) := by decide +kernel
theorem dX11_condition_299 : decode cX11_condition 299 = .ok (.iadd, 1) := by decide +kernel
theorem dX11_condition_300 : decode cX11_condition 300 = .ok (.putfield 199, 3) := by decide +kernel
theorem dX11_condition_303 : decode cX11_condition 303 = .ok (.aload_n 0, 1) := by decide +kernel
theorem dX11_condition_304 : decode cX11_condition 304 = .ok (.invokevirtual 189, 3) := by decide +kernel
theorem dX11_condition_307 : decode cX11_condition 307 = .ok (.ifCond .ne (-298), 3) := by decide +kernel
theorem dX11_condition_310 : decode cX11_condition 310 = .ok (.iconst 0, 1) := by decide +kernel
theorem dX11_condition_311 : decode cX11_condition 311 = .ok (.ireturn, 1) := by decide +kernel
theorem dX11_condition_312 : decode cX11_condition 312 = .ok (.iload_n 1, 1) := by decide +kernel
theorem dX11_condition_313 : decode cX11_condition 313 = .ok (.ifCond .le 13, 3) := by decide +kernel
theorem dX11_condition_316 : decode cX11_condition 316 = .ok (.aload_n 0, 1) := by decide +kernel
theorem dX11_condition_317 : decode cX11_condition 317 = .ok (.iconst 1, 1) := by decide +kernel
theorem dX11_condition_318 : decode cX11_condition 318 = .ok (.aload_n 0, 1) := by decide +kernel
theorem dX11_condition_319 : decode cX11_condition 319 = .ok (.getfield 149, 3) := by decide +kernel
theorem dX11_condition_322 : decode cX11_condition 322 = .ok (.invokevirtual 179, 3) := by decide +kernel
theorem dX11_condition_325 : decode cX11_condition 325 = .ok (.ireturn, 1) := by decide +kernel
theorem dX11_condition_326 : decode cX11_condition 326 = .ok (.aload_n 0, 1) := by decide +kernel
theorem dX11_condition_327 : decode cX11_condition 327 = .ok (.getfield 199, 3) := by decide +kernel
theorem dX11_condition_330 : decode cX11_condition 330 = .ok (.ifCond .le 10, 3) := by decide +kernel
theorem dX11_condition_333 : decode cX11_condition 333 = .ok (.aload_n 0, 1) := by decide +kernel
theorem dX11_condition_334 : decode cX11_condition 334 = .ok (.invokevirtual 239, 3) := by decide +kernel
theorem dX11_condition_337 : decode cX11_condition 337 = .ok (.goto (-11), 3) := by decide +kernel
theorem dX11_condition_340 : decode cX11_condition 340 = .ok (.iconst 1, 1) := by decide +kernel
theorem dX11_condition_341 : decode cX11_condition 341 = .ok (.ireturn, 1) := by decide +kernel
theorem dX11_read_0 : decode cX11_read 0 = .ok (.iload_n 1, 1) := by decide +kernel
theorem dX11_read_1 : decode cX11_read 1 = .ok (.ifCond .lt 8, 3) := by decide +kernel
theorem dX11_read_4 : decode cX11_read 4 = .ok (.iload_n 1, 1) := by decide +kernel
theorem dX11_read_5 : decode cX11_read 5 = .ok (.iconst 1, 1) := by decide +kernel
theorem dX11_read_6 : decode cX11_read 6 = .ok (.if_icmp .le 5, 3) := by decide +kernel
theorem dX11_read_9 : decode cX11_read 9 = .ok (.iconst (-1), 1) := by decide +kernel
theorem dX11_read_10 : decode cX11_read 10 = .ok (.ireturn, 1) := by decide +kernel
theorem dX11_read_11 : decode cX11_read 11 = .ok (.aload_n 0, 1) := by decide +kernel
theorem dX11_read_12 : decode cX11_read 12 = .ok (.iconst 0, 1) := by decide +kernel
theorem dX11_read_13 : decode cX11_read 13 = .ok (.putfield 173, 3) := by decide +kernel
theorem dX11_read_16 : decode cX11_read 16 = .ok (.aload_n 0, 1) := by decide +kernel
theorem dX11_read_17 : decode cX11_read 17 = .ok (.iconst (-1), 1) := by decide +kernel
theorem dX11_read_18 : decode cX11_read 18 = .ok (.putfield 13, 3) := by decide +kernel
theorem dX11_read_21 : decode cX11_read 21 = .ok (.aload_n 0, 1) := by decide +kernel
theorem dX11_read_22 : decode cX11_read 22 = .ok (.iconst 0, 1) := by decide +kernel
theorem dX11_read_23 : decode cX11_read 23 = .ok (.putfield 146, 3) := by decide +kernel
theorem dX11_read_26 : decode cX11_read 26 = .ok (.aload_n 0, 1) := by decide +kernel
theorem dX11_read_27 : decode cX11_read 27 = .ok (.iconst 1, 1) := by decide +kernel
theorem dX11_read_28 : decode cX11_read 28 = .ok (.putfield 176, 3) := by decide +kernel
theorem dX11_read_31 : decode cX11_read 31 = .ok (.aload_n 0, 1) := by decide +kernel
theorem dX11_read_32 : decode cX11_read 32 = .ok (.iconst 0, 1) := by decide +kernel
theorem dX11_read_33 : decode cX11_read 33 = .ok (.putfield 193, 3) := by decide +kernel
theorem dX11_read_36 : decode cX11_read 36 = .ok (.aload_n 0, 1) := by decide +kernel
theorem dX11_read_37 : decode cX11_read 37 = .ok (.getfield 27, 3) := by decide +kernel
theorem dX11_read_40 : decode cX11_read 40 = .ok (.iconst 2, 1) := by decide +kernel
theorem dX11_read_41 : decode cX11_read 41 = .ok (.iconst 0, 1) := by decide +kernel
theorem dX11_read_42 : decode cX11_read 42 = .ok (.iastore, 1) := by decide +kernel
theorem dX11_read_43 : decode cX11_read 43 = .ok (.aload_n 0, 1) := by decide +kernel
theorem dX11_read_44 : decode cX11_read 44 = .ok (.getfield 24, 3) := by decide +kernel
theorem dX11_read_47 : decode cX11_read 47 = .ok (.iconst 2, 1) := by decide +kernel
theorem dX11_read_48 : decode cX11_read 48 = .ok (.iconst 0, 1) := by decide +kernel
theorem dX11_read_49 : decode cX11_read 49 = .ok (.iastore, 1) := by decide +kernel
theorem dX11_read_50 : decode cX11_read 50 = .ok (.aload_n 0, 1) := by decide +kernel
theorem dX11_read_51 : decode cX11_read 51 = .ok (.invokevirtual 183, 3) := by decide +kernel
theorem dX11_read_54 : decode cX11_read 54 = .ok (.aload_n 0, 1) := by decide +kernel
theorem dX11_read_55 : decode cX11_read 55 = .ok (.invokevirtual 242, 3) := by decide +kernel
theorem dX11_read_58 : decode cX11_read 58 = .ok (.ifCond .eq 14, 3) := by decide +kernel
theorem dX11_read_61 : decode cX11_read 61 = .ok (.aload_n 0, 1) := by decide +kernel
theorem dX11_read_62 : decode cX11_read 62 = .ok (.getfield 173, 3) := by decide +kernel
theorem dX11_read_65 : decode cX11_read 65 = .ok (.ifCond .ne 7, 3) := by decide +kernel
theorem dX11_read_68 : decode cX11_read 68 = .ok (.iconst 1, 1) := by decide +kernel
theorem dX11_read_69 : decode cX11_read 69 = .ok (.goto 4, 3) := by decide +kernel
theorem dX11_read_72 : decode cX11_read 72 = .ok (.iconst 0, 1) := by decide +kernel
theorem dX11_read_73 : decode cX11_read 73 = .ok (.istore_n 2, 1) := by decide +kernel
theorem dX11_read_74 : decode cX11_read 74 = .ok (.aload_n 0, 1) := by decide +kernel
theorem dX11_read_75 : decode cX11_read 75 = .ok (.iconst 0, 1) := by decide +kernel
theorem dX11_read_76 : decode cX11_read 76 = .ok (.putfield 117, 3) := by decide +kernel
theorem dX11_read_79 : decode cX11_read 79 = .ok (.iload_n 2, 1) := by decide +kernel
theorem dX11_read_80 : decode cX11_read 80 = .ok (.ifCond .ne 8, 3) := by decide +kernel
theorem dX11_read_83 : decode cX11_read 83 = .ok (.aload_n 0, 1) := by decide +kernel
theorem dX11_read_84 : decode cX11_read 84 = .ok (.getfield 173, 3) := by decide +kernel
theorem dX11_read_87 : decode cX11_read 87 = .ok (.ireturn, 1) := by decide +kernel
theorem dX11_read_88 : decode cX11_read 88 = .ok (.aload_n 0, 1) := by decide +kernel
theorem dX11_read_89 : decode cX11_read 89 = .ok (.getfield 27, 3) := by decide +kernel
theorem dX11_read_92 : decode cX11_read 92 = .ok (.iload_n 1, 1) := by decide +kernel
theorem dX11_read_93 : decode cX11_read 93 = .ok (.aload_n 0, 1) := by decide +kernel
theorem dX11_read_94 : decode cX11_read 94 = .ok (.getfield 27, 3) := by decide +kernel
theorem dX11_read_97 : decode cX11_read 97 = .ok (.iconst 2, 1) := by decide +kernel
theorem dX11_read_98 : decode cX11_read 98 = .ok (.iaload, 1) := by decide +kernel
theorem dX11_read_99 : decode cX11_read 99 = .ok (.iastore, 1) := by decide +kernel
theorem dX11_read_100 : decode cX11_read 100 = .ok (.aload_n 0, 1) := by decide +kernel
theorem dX11_read_101 : decode cX11_read 101 = .ok (.getfield 24, 3) := by decide +kernel
theorem dX11_read_104 : decode cX11_read 104 = .ok (.iload_n 1, 1) := by decide +kernel
theorem dX11_read_105 : decode cX11_read 105 = .ok (.aload_n 0, 1) := by decide +kernel
theorem dX11_read_106 : decode cX11_read 106 = .ok (.getfield 24, 3) := by decide +kernel
theorem dX11_read_109 : decode cX11_read 109 = .ok (.iconst 2, 1) := by decide +kernel
theorem dX11_read_110 : decode cX11_read 110 = .ok (.iaload, 1) := by decide +kernel
theorem dX11_read_111 : decode cX11_read 111 = .ok (.iastore, 1) := by decide +kernel
theorem dX11_read_112 : decode cX11_read 112 = .ok (.iconst 0, 1) := by decide +kernel
theorem dX11_read_113 : decode cX11_read 113 = .ok (.istore_n 3, 1) := by decide +kernel
theorem dX11_read_114 : decode cX11_read 114 = .ok (.iload_n 3, 1) := by decide +kernel
theorem dX11_read_115 : decode cX11_read 115 = .ok (.aload_n 0, 1) := by decide +kernel
theorem dX11_read_116 : decode cX11_read 116 = .ok (.getfield 24, 3) := by decide +kernel
theorem dX11_read_119 : decode cX11_read 119 = .ok (.iconst 2, 1) := by decide +kernel
theorem dX11_read_120 : decode cX11_read 120 = .ok (.iaload, 1) := by decide +kernel
theorem dX11_read_121 : decode cX11_read 121 = .ok (.if_icmp .ge 53, 3) := by decide +kernel
theorem dX11_read_124 : decode cX11_read 124 = .ok (.aload_n 0, 1) := by decide +kernel
theorem dX11_read_125 : decode cX11_read 125 = .ok (.getfield 17, 3) := by decide +kernel
theorem dX11_read_128 : decode cX11_read 128 = .ok (.iload_n 1, 1) := by decide +kernel
theorem dX11_read_129 : decode cX11_read 129 = .ok (.sipush 1300, 3) := by decide +kernel
theorem dX11_read_132 : decode cX11_read 132 = .ok (.imul, 1) := by decide +kernel
theorem dX11_read_133 : decode cX11_read 133 = .ok (.iload_n 3, 1) := by decide +kernel
theorem dX11_read_134 : decode cX11_read 134 = .ok (.iadd, 1) := by decide +kernel
theorem dX11_read_135 : decode cX11_read 135 = .ok (.aload_n 0, 1) := by decide +kernel
theorem dX11_read_136 : decode cX11_read 136 = .ok (.getfield 17, 3) := by decide +kernel
theorem dX11_read_139 : decode cX11_read 139 = .ok (.sipush 2600, 3) := by decide +kernel
theorem dX11_read_142 : decode cX11_read 142 = .ok (.iload_n 3, 1) := by decide +kernel
theorem dX11_read_143 : decode cX11_read 143 = .ok (.iadd, 1) := by decide +kernel
theorem dX11_read_144 : decode cX11_read 144 = .ok (.iaload, 1) := by decide +kernel
theorem dX11_read_145 : decode cX11_read 145 = .ok (.iastore, 1) := by decide +kernel
theorem dX11_read_146 : decode cX11_read 146 = .ok (.aload_n 0, 1) := by decide +kernel
theorem dX11_read_147 : decode cX11_read 147 = .ok (.getfield 21, 3) := by decide +kernel
theorem dX11_read_150 : decode cX11_read 150 = .ok (.iload_n 1, 1) := by decide +kernel
theorem dX11_read_151 : decode cX11_read 151 = .ok (.sipush 1300, 3) := by decide +kernel
theorem dX11_read_154 : decode cX11_read 154 = .ok (.imul, 1) := by decide +kernel
theorem dX11_read_155 : decode cX11_read 155 = .ok (.iload_n 3, 1) := by decide +kernel
theorem dX11_read_156 : decode cX11_read 156 = .ok (.iadd, 1) := by decide +kernel
theorem dX11_read_157 : decode cX11_read 157 = .ok (.aload_n 0, 1) := by decide +kernel
theorem dX11_read_158 : decode cX11_read 158 = .ok (.getfield 21, 3) := by decide +kernel
theorem dX11_read_161 : decode cX11_read 161 = .ok (.sipush 2600, 3) := by decide +kernel
theorem dX11_read_164 : decode cX11_read 164 = .ok (.iload_n 3, 1) := by decide +kernel
theorem dX11_read_165 : decode cX11_read 165 = .ok (.iadd, 1) := by decide +kernel
theorem dX11_read_166 : decode cX11_read 166 = .ok (.iaload, 1) := by decide +kernel
theorem dX11_read_167 : decode cX11_read 167 = .ok (.iastore, 1) := by decide +kernel
theorem dX11_read_168 : decode cX11_read 168 = .ok (.iinc 3 1, 3) := by decide +kernel
theorem dX11_read_171 : decode cX11_read 171 = .ok (.goto (-57), 3) := by decide +kernel
theorem dX11_read_174 : decode cX11_read 174 = .ok (.iconst 0, 1) := by decide +kernel
theorem dX11_read_175 : decode cX11_read 175 = .ok (.istore_n 3, 1) := by decide +kernel
theorem dX11_read_176 : decode cX11_read 176 = .ok (.iload_n 3, 1) := by decide +kernel
theorem dX11_read_177 : decode cX11_read 177 = .ok (.aload_n 0, 1) := by decide +kernel
theorem dX11_read_178 : decode cX11_read 178 = .ok (.getfield 27, 3) := by decide +kernel
theorem dX11_read_181 : decode cX11_read 181 = .ok (.iconst 2, 1) := by decide +kernel
theorem dX11_read_182 : decode cX11_read 182 = .ok (.iaload, 1) := by decide +kernel
theorem dX11_read_183 : decode cX11_read 183 = .ok (.if_icmp .ge 109, 3) := by decide +kernel
theorem dX11_read_186 : decode cX11_read 186 = .ok (.aload_n 0, 1) := by decide +kernel
theorem dX11_read_187 : decode cX11_read 187 = .ok (.getfield 30, 3) := by decide +kernel
theorem dX11_read_190 : decode cX11_read 190 = .ok (.iload_n 1, 1) := by decide +kernel
theorem dX11_read_191 : decode cX11_read 191 = .ok (.bipush 20, 2) := by decide +kernel
theorem dX11_read_193 : decode cX11_read 193 = .ok (.imul, 1) := by decide +kernel
theorem dX11_read_194 : decode cX11_read 194 = .ok (.iload_n 3, 1) := by decide +kernel
theorem dX11_read_195 : decode cX11_read 195 = .ok (.iadd, 1) := by decide +kernel
theorem dX11_read_196 : decode cX11_read 196 = .ok (.aload_n 0, 1) := by decide +kernel
theorem dX11_read_197 : decode cX11_read 197 = .ok (.getfield 30, 3) := by decide +kernel
theorem dX11_read_200 : decode cX11_read 200 = .ok (.bipush 40, 2) := by decide +kernel
theorem dX11_read_202 : decode cX11_read 202 = .ok (.iload_n 3, 1) := by decide +kernel
theorem dX11_read_203 : decode cX11_read 203 = .ok (.iadd, 1) := by decide +kernel
theorem dX11_read_204 : decode cX11_read 204 = .ok (.baload, 1) := by decide +kernel
theorem dX11_read_205 : decode cX11_read 205 = .ok (.bastore, 1) := by decide +kernel
theorem dX11_read_206 : decode cX11_read 206 = .ok (.aload_n 0, 1) := by decide +kernel
theorem dX11_read_207 : decode cX11_read 207 = .ok (.getfield 34, 3) := by decide +kernel
theorem dX11_read_210 : decode cX11_read 210 = .ok (.iload_n 1, 1) := by decide +kernel
theorem dX11_read_211 : decode cX11_read 211 = .ok (.bipush 20, 2) := by decide +kernel
theorem dX11_read_213 : decode cX11_read 213 = .ok (.imul, 1) := by decide +kernel
theorem dX11_read_214 : decode cX11_read 214 = .ok (.iload_n 3, 1) := by decide +kernel
theorem dX11_read_215 : decode cX11_read 215 = .ok (.iadd, 1) := by decide +kernel
theorem dX11_read_216 : decode cX11_read 216 = .ok (.aload_n 0, 1) := by decide +kernel
theorem dX11_read_217 : decode cX11_read 217 = .ok (.getfield 34, 3) := by decide +kernel
theorem dX11_read_220 : decode cX11_read 220 = .ok (.bipush 40, 2) := by decide +kernel
theorem dX11_read_222 : decode cX11_read 222 = .ok (.iload_n 3, 1) := by decide +kernel
theorem dX11_read_223 : decode cX11_read 223 = .ok (.iadd, 1) := by decide +kernel
theorem dX11_read_224 : decode cX11_read 224 = .ok (.iaload, 1) := by decide +kernel
theorem dX11_read_225 : decode cX11_read 225 = .ok (.iastore, 1) := by decide +kernel
theorem dX11_read_226 : decode cX11_read 226 = .ok (.aload_n 0, 1) := by decide +kernel
theorem dX11_read_227 : decode cX11_read 227 = .ok (.getfield 37, 3) := by decide +kernel
theorem dX11_read_230 : decode cX11_read 230 = .ok (.iload_n 1, 1) := by decide +kernel
theorem dX11_read_231 : decode cX11_read 231 = .ok (.bipush 20, 2) := by decide +kernel
theorem dX11_read_233 : decode cX11_read 233 = .ok (.imul, 1) := by decide +kernel
theorem dX11_read_234 : decode cX11_read 234 = .ok (.iload_n 3, 1) := by decide +kernel
theorem dX11_read_235 : decode cX11_read 235 = .ok (.iadd, 1) := by decide +kernel
theorem dX11_read_236 : decode cX11_read 236 = .ok (.aload_n 0, 1) := by decide +kernel
theorem dX11_read_237 : decode cX11_read 237 = .ok (.getfield 37, 3) := by decide +kernel
theorem dX11_read_240 : decode cX11_read 240 = .ok (.bipush 40, 2) := by decide +kernel
theorem dX11_read_242 : decode cX11_read 242 = .ok (.iload_n 3, 1) := by decide +kernel
theorem dX11_read_243 : decode cX11_read 243 = .ok (.iadd, 1) := by decide +kernel
theorem dX11_read_244 : decode cX11_read 244 = .ok (.iaload, 1) := by decide +kernel
theorem dX11_read_245 : decode cX11_read 245 = .ok (.iastore, 1) := by decide +kernel
theorem dX11_read_246 : decode cX11_read 246 = .ok (.aload_n 0, 1) := by decide +kernel
theorem dX11_read_247 : decode cX11_read 247 = .ok (.getfield 40, 3) := by decide +kernel
theorem dX11_read_250 : decode cX11_read 250 = .ok (.iload_n 1, 1) := by decide +kernel
theorem dX11_read_251 : decode cX11_read 251 = .ok (.bipush 20, 2) := by decide +kernel
theorem dX11_read_253 : decode cX11_read 253 = .ok (.imul, 1) := by decide +kernel
theorem dX11_read_254 : decode cX11_read 254 = .ok (.iload_n 3, 1) := by decide +kernel
theorem dX11_read_255 : decode cX11_read 255 = .ok (.iadd, 1) := by decide +kernel
theorem dX11_read_256 : decode cX11_read 256 = .ok (.aload_n 0, 1) := by decide +kernel
theorem dX11_read_257 : decode cX11_read 257 = .ok (.getfield 40, 3) := by decide +kernel
theorem dX11_read_260 : decode cX11_read 260 = .ok (.bipush 40, 2) := by decide +kernel
theorem dX11_read_262 : decode cX11_read 262 = .ok (.iload_n 3, 1) := by decide +kernel
theorem dX11_read_263 : decode cX11_read 263 = .ok (.iadd, 1) := by decide +kernel
theorem dX11_read_264 : decode cX11_read 264 = .ok (.iaload, 1) := by decide +kernel
theorem dX11_read_265 : decode cX11_read 265 = .ok (.iastore, 1) := by decide +kernel
theorem dX11_read_266 : decode cX11_read 266 = .ok (.aload_n 0, 1) := by decide +kernel
theorem dX11_read_267 : decode cX11_read 267 = .ok (.getfield 43, 3) := by decide +kernel
theorem dX11_read_270 : decode cX11_read 270 = .ok (.iload_n 1, 1) := by decide +kernel
theorem dX11_read_271 : decode cX11_read 271 = .ok (.bipush 20, 2) := by decide +kernel
theorem dX11_read_273 : decode cX11_read 273 = .ok (.imul, 1) := by decide +kernel
theorem dX11_read_274 : decode cX11_read 274 = .ok (.iload_n 3, 1) := by decide +kernel
theorem dX11_read_275 : decode cX11_read 275 = .ok (.iadd, 1) := by decide +kernel
theorem dX11_read_276 : decode cX11_read 276 = .ok (.aload_n 0, 1) := by decide +kernel
theorem dX11_read_277 : decode cX11_read 277 = .ok (.getfield 43, 3) := by decide +kernel
theorem dX11_read_280 : decode cX11_read 280 = .ok (.bipush 40, 2) := by decide +kernel
theorem dX11_read_282 : decode cX11_read 282 = .ok (.iload_n 3, 1) := by decide +kernel
theorem dX11_read_283 : decode cX11_read 283 = .ok (.iadd, 1) := by decide +kernel
theorem dX11_read_284 : decode cX11_read 284 = .ok (.iaload, 1) := by decide +kernel
theorem dX11_read_285 : decode cX11_read 285 = .ok (.iastore, 1) := by decide +kernel
theorem dX11_read_286 : decode cX11_read 286 = .ok (.iinc 3 1, 3) := by decide +kernel
theorem dX11_read_289 : decode cX11_read 289 = .ok (.goto (-113), 3) := by decide +kernel
theorem dX11_read_292 : decode cX11_read 292 = .ok (.iconst 0, 1) := by decide +kernel
theorem dX11_read_293 : decode cX11_read 293 = .ok (.ireturn, 1) := by decide +kernel
theorem dX11_text_0 : decode cX11_text 0 = .ok (.aload_n 0, 1) := by decide +kernel
theorem dX11_text_1 : decode cX11_text 1 = .ok (.iconst 0, 1) := by decide +kernel
theorem dX11_text_2 : decode cX11_text 2 = .ok (.invokevirtual 206, 3) := by decide +kernel
theorem dX11_text_5 : decode cX11_text 5 = .ok (.ifCond .eq 113, 3) := by decide +kernel
theorem dX11_text_8 : decode cX11_text 8 = .ok (.aload_n 0, 1) := by decide +kernel
theorem dX11_text_9 : decode cX11_text 9 = .ok (.getfield 193, 3) := by decide +kernel
theorem dX11_text_12 : decode cX11_text 12 = .ok (.bipush 8, 2) := by decide +kernel
theorem dX11_text_14 : decode cX11_text 14 = .ok (.if_icmp .ne 13, 3) := by decide +kernel
theorem dX11_text_17 : decode cX11_text 17 = .ok (.aload_n 0, 1) := by decide +kernel
theorem dX11_text_18 : decode cX11_text 18 = .ok (.iconst 2, 1) := by decide +kernel
theorem dX11_text_19 : decode cX11_text 19 = .ok (.aload_n 0, 1) := by decide +kernel
theorem dX11_text_20 : decode cX11_text 20 = .ok (.getfield 149, 3) := by decide +kernel
theorem dX11_text_23 : decode cX11_text 23 = .ok (.invokevirtual 179, 3) := by decide +kernel
theorem dX11_text_26 : decode cX11_text 26 = .ok (.ireturn, 1) := by decide +kernel
theorem dX11_text_27 : decode cX11_text 27 = .ok (.aload_n 0, 1) := by decide +kernel
theorem dX11_text_28 : decode cX11_text 28 = .ok (.invokevirtual 189, 3) := by decide +kernel
theorem dX11_text_31 : decode cX11_text 31 = .ok (.ifCond .ne 5, 3) := by decide +kernel
theorem dX11_text_34 : decode cX11_text 34 = .ok (.iconst 0, 1) := by decide +kernel
theorem dX11_text_35 : decode cX11_text 35 = .ok (.ireturn, 1) := by decide +kernel
theorem dX11_text_36 : decode cX11_text 36 = .ok (.aload_n 0, 1) := by decide +kernel
theorem dX11_text_37 : decode cX11_text 37 = .ok (.getfield 155, 3) := by decide +kernel
theorem dX11_text_40 : decode cX11_text 40 = .ok (.iconst 1, 1) := by decide +kernel
theorem dX11_text_41 : decode cX11_text 41 = .ok (.if_icmp .eq 13, 3) := by decide +kernel
theorem dX11_text_44 : decode cX11_text 44 = .ok (.aload_n 0, 1) := by decide +kernel
theorem dX11_text_45 : decode cX11_text 45 = .ok (.iconst 1, 1) := by decide +kernel
theorem dX11_text_46 : decode cX11_text 46 = .ok (.aload_n 0, 1) := by decide +kernel
theorem dX11_text_47 : decode cX11_text 47 = .ok (.getfield 149, 3) := by decide +kernel
theorem dX11_text_50 : decode cX11_text 50 = .ok (.invokevirtual 179, 3) := by decide +kernel
theorem dX11_text_53 : decode cX11_text 53 = .ok (.ireturn, 1) := by decide +kernel
theorem dX11_text_54 : decode cX11_text 54 = .ok (.aload_n 0, 1) := by decide +kernel
theorem dX11_text_55 : decode cX11_text 55 = .ok (.aload_n 0, 1) := by decide +kernel
theorem dX11_text_56 : decode cX11_text 56 = .ok (.getfield 165, 3) := by decide +kernel
theorem dX11_text_59 : decode cX11_text 59 = .ok (.invokevirtual 212, 3) := by decide +kernel
theorem dX11_text_62 : decode cX11_text 62 = .ok (.ifCond .lt 12, 3) := by decide +kernel
theorem dX11_text_65 : decode cX11_text 65 = .ok (.aload_n 0, 1) := by decide +kernel
theorem dX11_text_66 : decode cX11_text 66 = .ok (.iconst 3, 1) := by decide +kernel
theorem dX11_text_67 : decode cX11_text 67 = .ok (.aload_n 0, 1) := by decide +kernel
theorem dX11_text_68 : decode cX11_text 68 = .ok (.getfield 149, 3) := by decide +kernel
theorem dX11_text_71 : decode cX11_text 71 = .ok (.invokevirtual 215, 3) := by decide +kernel
theorem dX11_text_74 : decode cX11_text 74 = .ok (.aload_n 0, 1) := by decide +kernel
theorem dX11_text_75 : decode cX11_text 75 = .ok (.getfield 46, 3) := by decide +kernel
theorem dX11_text_78 : decode cX11_text 78 = .ok (.aload_n 0, 1) := by decide +kernel
theorem dX11_text_79 : decode cX11_text 79 = .ok (.getfield 193, 3) := by decide +kernel
theorem dX11_text_82 : decode cX11_text 82 = .ok (.aload_n 0, 1) := by decide +kernel
theorem dX11_text_83 : decode cX11_text 83 = .ok (.getfield 165, 3) := by decide +kernel
theorem dX11_text_86 : decode cX11_text 86 = .ok (.lastore, 1) := by decide +kernel
theorem dX11_text_87 : decode cX11_text 87 = .ok (.aload_n 0, 1) := by decide +kernel
theorem dX11_text_88 : decode cX11_text 88 = .ok (.invokevirtual 189, 3) := by decide +kernel
theorem dX11_text_91 : decode cX11_text 91 = .ok (.ifCond .eq 12, 3) := by decide +kernel
theorem dX11_text_94 : decode cX11_text 94 = .ok (.aload_n 0, 1) := by decide +kernel
theorem dX11_text_95 : decode cX11_text 95 = .ok (.bipush 59, 2) := by decide +kernel
theorem dX11_text_97 : decode cX11_text 97 = .ok (.invokevirtual 209, 3) := by decide +kernel
theorem dX11_text_100 : decode cX11_text 100 = .ok (.ifCond .ne 5, 3) := by decide +kernel
theorem dX11_text_103 : decode cX11_text 103 = .ok (.iconst 0, 1) := by decide +kernel
theorem dX11_text_104 : decode cX11_text 104 = .ok (.ireturn, 1) := by decide +kernel
theorem dX11_text_105 : decode cX11_text 105 = .ok (.aload_n 0, 1) := by decide +kernel
theorem dX11_text_106 : decode cX11_text 106 = .ok (.dup, 1) := by decide +kernel
theorem dX11_text_107 : decode cX11_text 107 = .ok (.getfield 193, 3) := by decide +kernel
theorem dX11_text_110 : decode cX11_text 110 = .ok (.iconst 1, 1) := by decide +kernel
theorem dX11_text_111 : decode cX11_text 111 = .ok (.iadd, 1) := by decide +kernel
theorem dX11_text_112 : decode cX11_text 112 = .ok (.putfield 193, 3) := by decide +kernel
theorem dX11_text_115 : decode cX11_text 115 = .ok (.goto (-115), 3) := by decide +kernel
theorem dX11_text_118 : decode cX11_text 118 = .ok (.aload_n 0, 1) := by decide +kernel
theorem dX11_text_119 : decode cX11_text 119 = .ok (.getfield 155, 3) := by decide +kernel
theorem dX11_text_122 : decode cX11_text 122 = .ok (.ifCond .eq 59, 3) := by decide +kernel
theorem dX11_text_125 : decode cX11_text 125 = .ok (.aload_n 0, 1) := by decide +kernel
theorem dX11_text_126 : decode cX11_text 126 = .ok (.iconst 1, 1) := by decide +kernel
theorem dX11_text_127 : decode cX11_text 127 = .ok (.invokevirtual 206, 3) := by decide +kernel
theorem dX11_text_130 : decode cX11_text 130 = .ok (.ifCond .ne 21, 3) := by decide +kernel
theorem dX11_text_133 : decode cX11_text 133 = .ok (.aload_n 0, 1) := by decide +kernel
theorem dX11_text_134 : decode cX11_text 134 = .ok (.iconst 2, 1) := by decide +kernel
theorem dX11_text_135 : decode cX11_text 135 = .ok (.invokevirtual 206, 3) := by decide +kernel
theorem dX11_text_138 : decode cX11_text 138 = .ok (.ifCond .ne 13, 3) := by decide +kernel
theorem dX11_text_141 : decode cX11_text 141 = .ok (.aload_n 0, 1) := by decide +kernel
theorem dX11_text_142 : decode cX11_text 142 = .ok (.iconst 1, 1) := by decide +kernel
theorem dX11_text_143 : decode cX11_text 143 = .ok (.aload_n 0, 1) := by decide +kernel
theorem dX11_text_144 : decode cX11_text 144 = .ok (.getfield 149, 3) := by decide +kernel
theorem dX11_text_147 : decode cX11_text 147 = .ok (.invokevirtual 179, 3) := by decide +kernel
theorem dX11_text_150 : decode cX11_text 150 = .ok (.ireturn, 1) := by decide +kernel
theorem dX11_text_151 : decode cX11_text 151 = .ok (.aload_n 0, 1) := by decide +kernel
theorem dX11_text_152 : decode cX11_text 152 = .ok (.getfield 27, 3) := by decide +kernel
theorem dX11_text_155 : decode cX11_text 155 = .ok (.iconst 2, 1) := by decide +kernel
theorem dX11_text_156 : decode cX11_text 156 = .ok (.iaload, 1) := by decide +kernel
theorem dX11_text_157 : decode cX11_text 157 = .ok (.bipush 20, 2) := by decide +kernel
theorem dX11_text_159 : decode cX11_text 159 = .ok (.if_icmp .ne 13, 3) := by decide +kernel
theorem dX11_text_162 : decode cX11_text 162 = .ok (.aload_n 0, 1) := by decide +kernel
theorem dX11_text_163 : decode cX11_text 163 = .ok (.iconst 2, 1) := by decide +kernel
theorem dX11_text_164 : decode cX11_text 164 = .ok (.aload_n 0, 1) := by decide +kernel
theorem dX11_text_165 : decode cX11_text 165 = .ok (.getfield 149, 3) := by decide +kernel
theorem dX11_text_168 : decode cX11_text 168 = .ok (.invokevirtual 179, 3) := by decide +kernel
theorem dX11_text_171 : decode cX11_text 171 = .ok (.ireturn, 1) := by decide +kernel
theorem dX11_text_172 : decode cX11_text 172 = .ok (.aload_n 0, 1) := by decide +kernel
theorem dX11_text_173 : decode cX11_text 173 = .ok (.invokevirtual 245, 3) := by decide +kernel
theorem dX11_text_176 : decode cX11_text 176 = .ok (.ifCond .ne (-58), 3) := by decide +kernel
theorem dX11_text_179 : decode cX11_text 179 = .ok (.iconst 0, 1) := by decide +kernel
theorem dX11_text_180 : decode cX11_text 180 = .ok (.ireturn, 1) := by decide +kernel
theorem dX11_text_181 : decode cX11_text 181 = .ok (.iconst 1, 1) := by decide +kernel
theorem dX11_text_182 : decode cX11_text 182 = .ok (.ireturn, 1) := by decide +kernel
theorem dX11_rule_0 : decode cX11_rule 0 = .ok (.bipush 40, 2) := by decide +kernel
theorem dX11_rule_2 : decode cX11_rule 2 = .ok (.aload_n 0, 1) := by decide +kernel
theorem dX11_rule_3 : decode cX11_rule 3 = .ok (.getfield 27, 3) := by decide +kernel
theorem dX11_rule_6 : decode cX11_rule 6 = .ok (.iconst 2, 1) := by decide +kernel
theorem dX11_rule_7 : decode cX11_rule 7 = .ok (.iaload, 1) := by decide +kernel
theorem dX11_rule_8 : decode cX11_rule 8 = .ok (.iadd, 1) := by decide +kernel
theorem dX11_rule_9 : decode cX11_rule 9 = .ok (.istore_n 1, 1) := by decide +kernel
theorem dX11_rule_10 : decode cX11_rule 10 = .ok (.aload_n 0, 1) := by decide +kernel
theorem dX11_rule_11 : decode cX11_rule 11 = .ok (.getfield 30, 3) := by decide +kernel
theorem dX11_rule_14 : decode cX11_rule 14 = .ok (.iload_n 1, 1) := by decide +kernel
theorem dX11_rule_15 : decode cX11_rule 15 = .ok (.aload_n 0, 1) := by decide +kernel
theorem dX11_rule_16 : decode cX11_rule 16 = .ok (.iconst 1, 1) := by decide +kernel
theorem dX11_rule_17 : decode cX11_rule 17 = .ok (.invokevirtual 206, 3) := by decide +kernel
theorem dX11_rule_20 : decode cX11_rule 20 = .ok (.bastore, 1) := by decide +kernel
theorem dX11_rule_21 : decode cX11_rule 21 = .ok (.aload_n 0, 1) := by decide +kernel
theorem dX11_rule_22 : decode cX11_rule 22 = .ok (.iconst 0, 1) := by decide +kernel
theorem dX11_rule_23 : decode cX11_rule 23 = .ok (.putfield 218, 3) := by decide +kernel
theorem dX11_rule_26 : decode cX11_rule 26 = .ok (.aload_n 0, 1) := by decide +kernel
theorem dX11_rule_27 : decode cX11_rule 27 = .ok (.getfield 34, 3) := by decide +kernel
theorem dX11_rule_30 : decode cX11_rule 30 = .ok (.iload_n 1, 1) := by decide +kernel
theorem dX11_rule_31 : decode cX11_rule 31 = .ok (.aload_n 0, 1) := by decide +kernel
theorem dX11_rule_32 : decode cX11_rule 32 = .ok (.getfield 24, 3) := by decide +kernel
theorem dX11_rule_35 : decode cX11_rule 35 = .ok (.iconst 2, 1) := by decide +kernel
theorem dX11_rule_36 : decode cX11_rule 36 = .ok (.iaload, 1) := by decide +kernel
theorem dX11_rule_37 : decode cX11_rule 37 = .ok (.iastore, 1) := by decide +kernel
theorem dX11_rule_38 : decode cX11_rule 38 = .ok (.aload_n 0, 1) := by decide +kernel
theorem dX11_rule_39 : decode cX11_rule 39 = .ok (.invokevirtual 189, 3) := by decide +kernel
theorem dX11_rule_42 : decode cX11_rule 42 = .ok (.ifCond .eq 19, 3) := by decide +kernel
theorem dX11_rule_45 : decode cX11_rule 45 = .ok (.aload_n 0, 1) := by decide +kernel
theorem dX11_rule_46 : decode cX11_rule 46 = .ok (.getfield 30, 3) := by decide +kernel
theorem dX11_rule_49 : decode cX11_rule 49 = .ok (.iload_n 1, 1) := by decide +kernel
theorem dX11_rule_50 : decode cX11_rule 50 = .ok (.baload, 1) := by decide +kernel
theorem dX11_rule_51 : decode cX11_rule 51 = .ok (.ifCond .ne 12, 3) := by decide +kernel
theorem dX11_rule_54 : decode cX11_rule 54 = .ok (.aload_n 0, 1) := by decide +kernel
theorem dX11_rule_55 : decode cX11_rule 55 = .ok (.invokevirtual 230, 3) := by decide +kernel
theorem dX11_rule_58 : decode cX11_rule 58 = .ok (.ifCond .ne 5, 3) := by decide +kernel
theorem dX11_rule_61 : decode cX11_rule 61 = .ok (.iconst 0, 1) := by decide +kernel
theorem dX11_rule_62 : decode cX11_rule 62 = .ok (.ireturn, 1) := by decide +kernel
theorem dX11_rule_63 : decode cX11_rule 63 = .ok (.aload_n 0, 1) := by decide +kernel
theorem dX11_rule_64 : decode cX11_rule 64 = .ok (.getfield 37, 3) := by decide +kernel
theorem dX11_rule_67 : decode cX11_rule 67 = .ok (.iload_n 1, 1) := by decide +kernel
theorem dX11_rule_68 : decode cX11_rule 68 = .ok (.aload_n 0, 1) := by decide +kernel
theorem dX11_rule_69 : decode cX11_rule 69 = .ok (.getfield 24, 3) := by decide +kernel
theorem dX11_rule_72 : decode cX11_rule 72 = .ok (.iconst 2, 1) := by decide +kernel
theorem dX11_rule_73 : decode cX11_rule 73 = .ok (.iaload, 1) := by decide +kernel
theorem dX11_rule_74 : decode cX11_rule 74 = .ok (.iastore, 1) := by decide +kernel
theorem dX11_rule_75 : decode cX11_rule 75 = .ok (.aload_n 0, 1) := by decide +kernel
theorem dX11_rule_76 : decode cX11_rule 76 = .ok (.getfield 40, 3) := by decide +kernel
theorem dX11_rule_79 : decode cX11_rule 79 = .ok (.iload_n 1, 1) := by decide +kernel
theorem dX11_rule_80 : decode cX11_rule 80 = .ok (.aload_n 0, 1) := by decide +kernel
theorem dX11_rule_81 : decode cX11_rule 81 = .ok (.getfield 24, 3) := by decide +kernel
theorem dX11_rule_84 : decode cX11_rule 84 = .ok (.iconst 2, 1) := by decide +kernel
theorem dX11_rule_85 : decode cX11_rule 85 = .ok (.iaload, 1) := by decide +kernel
theorem dX11_rule_86 : decode cX11_rule 86 = .ok (.iastore, 1) := by decide +kernel
theorem dX11_rule_87 : decode cX11_rule 87 = .ok (.aload_n 0, 1) := by decide +kernel
theorem dX11_rule_88 : decode cX11_rule 88 = .ok (.getfield 30, 3) := by decide +kernel
theorem dX11_rule_91 : decode cX11_rule 91 = .ok (.iload_n 1, 1) := by decide +kernel
theorem dX11_rule_92 : decode cX11_rule 92 = .ok (.baload, 1) := by decide +kernel
theorem dX11_rule_93 : decode cX11_rule 93 = .ok (.ifCond .ne 11, 3) := by decide +kernel
theorem dX11_rule_96 : decode cX11_rule 96 = .ok (.aload_n 0, 1) := by decide +kernel
theorem dX11_rule_97 : decode cX11_rule 97 = .ok (.iconst 3, 1) := by decide +kernel
theorem dX11_rule_98 : decode cX11_rule 98 = .ok (.invokevirtual 206, 3) := by decide +kernel
theorem dX11_rule_101 : decode cX11_rule 101 = .ok (.ifCond .eq 7, 3) := by decide +kernel
theorem dX11_rule_104 : decode cX11_rule 104 = .ok (.iconst 1, 1) := by decide +kernel
theorem dX11_rule_105 : decode cX11_rule 105 = .ok (.goto 4, 3) := by decide +kernel
theorem dX11_rule_108 : decode cX11_rule 108 = .ok (.iconst 0, 1) := by decide +kernel
theorem dX11_rule_109 : decode cX11_rule 109 = .ok (.istore_n 2, 1) := by decide +kernel
theorem dX11_rule_110 : decode cX11_rule 110 = .ok (.iload_n 2, 1) := by decide +kernel
theorem dX11_rule_111 : decode cX11_rule 111 = .ok (.ifCond .eq 21, 3) := by decide +kernel
theorem dX11_rule_114 : decode cX11_rule 114 = .ok (.aload_n 0, 1) := by decide +kernel
theorem dX11_rule_115 : decode cX11_rule 115 = .ok (.getfield 30, 3) := by decide +kernel
theorem dX11_rule_118 : decode cX11_rule 118 = .ok (.iload_n 1, 1) := by decide +kernel
theorem dX11_rule_119 : decode cX11_rule 119 = .ok (.baload, 1) := by decide +kernel
theorem dX11_rule_120 : decode cX11_rule 120 = .ok (.ifCond .ne 12, 3) := by decide +kernel
theorem dX11_rule_123 : decode cX11_rule 123 = .ok (.aload_n 0, 1) := by decide +kernel
theorem dX11_rule_124 : decode cX11_rule 124 = .ok (.invokevirtual 189, 3) := by decide +kernel
theorem dX11_rule_127 : decode cX11_rule 127 = .ok (.ifCond .ne 5, 3) := by decide +kernel
theorem dX11_rule_130 : decode cX11_rule 130 = .ok (.iconst 0, 1) := by decide +kernel
theorem dX11_rule_131 : decode cX11_rule 131 = .ok (.ireturn, 1) := by decide +kernel
theorem dX11_rule_132 : decode cX11_rule 132 = .ok (.iload_n 2, 1) := by decide +kernel
theorem dX11_rule_133 : decode cX11_rule 133 = .ok (.ifCond .eq 12, 3) := by decide +kernel
theorem dX11_rule_136 : decode cX11_rule 136 = .ok (.aload_n 0, 1) := by decide +kernel
theorem dX11_rule_137 : decode cX11_rule 137 = .ok (.invokevirtual 248, 3) := by decide +kernel
theorem dX11_rule_140 : decode cX11_rule 140 = .ok (.ifCond .ne 5, 3) := by decide +kernel
theorem dX11_rule_143 : decode cX11_rule 143 = .ok (.iconst 0, 1) := by decide +kernel
theorem dX11_rule_144 : decode cX11_rule 144 = .ok (.ireturn, 1) := by decide +kernel
theorem dX11_rule_145 : decode cX11_rule 145 = .ok (.aload_n 0, 1) := by decide +kernel
theorem dX11_rule_146 : decode cX11_rule 146 = .ok (.getfield 43, 3) := by decide +kernel
theorem dX11_rule_149 : decode cX11_rule 149 = .ok (.iload_n 1, 1) := by decide +kernel
theorem dX11_rule_150 : decode cX11_rule 150 = .ok (.aload_n 0, 1) := by decide +kernel
theorem dX11_rule_151 : decode cX11_rule 151 = .ok (.getfield 24, 3) := by decide +kernel
theorem dX11_rule_154 : decode cX11_rule 154 = .ok (.iconst 2, 1) := by decide +kernel
theorem dX11_rule_155 : decode cX11_rule 155 = .ok (.iaload, 1) := by decide +kernel
theorem dX11_rule_156 : decode cX11_rule 156 = .ok (.iastore, 1) := by decide +kernel
theorem dX11_rule_157 : decode cX11_rule 157 = .ok (.aload_n 0, 1) := by decide +kernel
theorem dX11_rule_158 : decode cX11_rule 158 = .ok (.bipush 59, 2) := by decide +kernel
theorem dX11_rule_160 : decode cX11_rule 160 = .ok (.invokevirtual 209, 3) := by decide +kernel
theorem dX11_rule_163 : decode cX11_rule 163 = .ok (.ifCond .ne 5, 3) := by decide +kernel
theorem dX11_rule_166 : decode cX11_rule 166 = .ok (.iconst 0, 1) := by decide +kernel
theorem dX11_rule_167 : decode cX11_rule 167 = .ok (.ireturn, 1) := by decide +kernel
theorem dX11_rule_168 : decode cX11_rule 168 = .ok (.aload_n 0, 1) := by decide +kernel
theorem dX11_rule_169 : decode cX11_rule 169 = .ok (.getfield 27, 3) := by decide +kernel
theorem dX11_rule_172 : decode cX11_rule 172 = .ok (.iconst 2, 1) := by decide +kernel
theorem dX11_rule_173 : decode cX11_rule 173 = .ok (.dup2, 1) := by decide +kernel
theorem dX11_rule_174 : decode cX11_rule 174 = .ok (.iaload, 1) := by decide +kernel
theorem dX11_rule_175 : decode cX11_rule 175 = .ok (.iconst 1, 1) := by decide +kernel
theorem dX11_rule_176 : decode cX11_rule 176 = .ok (.iadd, 1) := by decide +kernel
theorem dX11_rule_177 : decode cX11_rule 177 = .ok (.iastore, 1) := by decide +kernel
theorem dX11_rule_178 : decode cX11_rule 178 = .ok (.iconst 1, 1) := by decide +kernel
theorem dX11_rule_179 : decode cX11_rule 179 = .ok (.ireturn, 1) := by decide +kernel
theorem dX11_place_0 : decode cX11_place 0 = .ok (.aload_n 0, 1) := by decide +kernel
theorem dX11_place_1 : decode cX11_place 1 = .ok (.getfield 13, 3) := by decide +kernel
theorem dX11_place_4 : decode cX11_place 4 = .ok (.ireturn, 1) := by decide +kernel
theorem dX11_family_0 : decode cX11_family 0 = .ok (.aload_n 0, 1) := by decide +kernel
theorem dX11_family_1 : decode cX11_family 1 = .ok (.getfield 251, 3) := by decide +kernel
theorem dX11_family_4 : decode cX11_family 4 = .ok (.bipush 12, 2) := by decide +kernel
theorem dX11_family_6 : decode cX11_family 6 = .ok (.if_icmp .ne 5, 3) := by decide +kernel
theorem dX11_family_9 : decode cX11_family 9 = .ok (.iconst (-1), 1) := by decide +kernel
theorem dX11_family_10 : decode cX11_family 10 = .ok (.ireturn, 1) := by decide +kernel
theorem dX11_family_11 : decode cX11_family 11 = .ok (.aload_n 0, 1) := by decide +kernel
theorem dX11_family_12 : decode cX11_family 12 = .ok (.dup, 1) := by decide +kernel
theorem dX11_family_13 : decode cX11_family 13 = .ok (.getfield 251, 3) := by decide +kernel
theorem dX11_family_16 : decode cX11_family 16 = .ok (.iconst 1, 1) := by decide +kernel
theorem dX11_family_17 : decode cX11_family 17 = .ok (.iadd, 1) := by decide +kernel
theorem dX11_family_18 : decode cX11_family 18 = .ok (.putfield 251, 3) := by decide +kernel
theorem dX11_family_21 : decode cX11_family 21 = .ok (.aload_n 0, 1) := by decide +kernel
theorem dX11_family_22 : decode cX11_family 22 = .ok (.getfield 251, 3) := by decide +kernel
theorem dX11_family_25 : decode cX11_family 25 = .ok (.iconst 1, 1) := by decide +kernel
theorem dX11_family_26 : decode cX11_family 26 = .ok (.isub, 1) := by decide +kernel
theorem dX11_family_27 : decode cX11_family 27 = .ok (.ireturn, 1) := by decide +kernel
theorem dX11_isFamily_0 : decode cX11_isFamily 0 = .ok (.iload_n 1, 1) := by decide +kernel
theorem dX11_isFamily_1 : decode cX11_isFamily 1 = .ok (.ifCond .lt 15, 3) := by decide +kernel
theorem dX11_isFamily_4 : decode cX11_isFamily 4 = .ok (.iload_n 1, 1) := by decide +kernel
theorem dX11_isFamily_5 : decode cX11_isFamily 5 = .ok (.aload_n 0, 1) := by decide +kernel
theorem dX11_isFamily_6 : decode cX11_isFamily 6 = .ok (.getfield 251, 3) := by decide +kernel
theorem dX11_isFamily_9 : decode cX11_isFamily 9 = .ok (.if_icmp .ge 7, 3) := by decide +kernel
theorem dX11_isFamily_12 : decode cX11_isFamily 12 = .ok (.iconst 1, 1) := by decide +kernel
theorem dX11_isFamily_13 : decode cX11_isFamily 13 = .ok (.goto 4, 3) := by decide +kernel
theorem dX11_isFamily_16 : decode cX11_isFamily 16 = .ok (.iconst 0, 1) := by decide +kernel
theorem dX11_isFamily_17 : decode cX11_isFamily 17 = .ok (.ireturn, 1) := by decide +kernel
theorem dX11_isDay_0 : decode cX11_isDay 0 = .ok (.iload_n 0, 1) := by decide +kernel
theorem dX11_isDay_1 : decode cX11_isDay 1 = .ok (.ifCond .lt 13, 3) := by decide +kernel
theorem dX11_isDay_4 : decode cX11_isDay 4 = .ok (.iload_n 0, 1) := by decide +kernel
theorem dX11_isDay_5 : decode cX11_isDay 5 = .ok (.ldc 254, 2) := by decide +kernel
theorem dX11_isDay_7 : decode cX11_isDay 7 = .ok (.if_icmp .gt 7, 3) := by decide +kernel
theorem dX11_isDay_10 : decode cX11_isDay 10 = .ok (.iconst 1, 1) := by decide +kernel
theorem dX11_isDay_11 : decode cX11_isDay 11 = .ok (.goto 4, 3) := by decide +kernel
theorem dX11_isDay_14 : decode cX11_isDay 14 = .ok (.iconst 0, 1) := by decide +kernel
theorem dX11_isDay_15 : decode cX11_isDay 15 = .ok (.ireturn, 1) := by decide +kernel
theorem dX11_clock_0 : decode cX11_clock 0 = .ok (.iload_n 1, 1) := by decide +kernel
theorem dX11_clock_1 : decode cX11_clock 1 = .ok (.aload_n 0, 1) := by decide +kernel
theorem dX11_clock_2 : decode cX11_clock 2 = .ok (.getfield 255, 3) := by decide +kernel
theorem dX11_clock_5 : decode cX11_clock 5 = .ok (.if_icmp .lt 9, 3) := by decide +kernel
theorem dX11_clock_8 : decode cX11_clock 8 = .ok (.iload_n 1, 1) := by decide +kernel
theorem dX11_clock_9 : decode cX11_clock 9 = .ok (.ldc 254, 2) := by decide +kernel
theorem dX11_clock_11 : decode cX11_clock 11 = .ok (.if_icmp .le 5, 3) := by decide +kernel
theorem dX11_clock_14 : decode cX11_clock 14 = .ok (.iconst 0, 1) := by decide +kernel
theorem dX11_clock_15 : decode cX11_clock 15 = .ok (.ireturn, 1) := by decide +kernel
theorem dX11_clock_16 : decode cX11_clock 16 = .ok (.aload_n 0, 1) := by decide +kernel
theorem dX11_clock_17 : decode cX11_clock 17 = .ok (.iload_n 1, 1) := by decide +kernel
theorem dX11_clock_18 : decode cX11_clock 18 = .ok (.putfield 255, 3) := by decide +kernel
theorem dX11_clock_21 : decode cX11_clock 21 = .ok (.iconst 1, 1) := by decide +kernel
theorem dX11_clock_22 : decode cX11_clock 22 = .ok (.ireturn, 1) := by decide +kernel
theorem dX11_term_0 : decode cX11_term 0 = .ok (.iload_n 1, 1) := by decide +kernel
theorem dX11_term_1 : decode cX11_term 1 = .ok (.invokestatic 258, 3) := by decide +kernel
theorem dX11_term_4 : decode cX11_term 4 = .ok (.ifCond .ne 5, 3) := by decide +kernel
theorem dX11_term_7 : decode cX11_term 7 = .ok (.iconst 0, 1) := by decide +kernel
theorem dX11_term_8 : decode cX11_term 8 = .ok (.ireturn, 1) := by decide +kernel
theorem dX11_term_9 : decode cX11_term 9 = .ok (.aload_n 0, 1) := by decide +kernel
theorem dX11_term_10 : decode cX11_term 10 = .ok (.iload_n 1, 1) := by decide +kernel
theorem dX11_term_11 : decode cX11_term 11 = .ok (.putfield 261, 3) := by decide +kernel
theorem dX11_term_14 : decode cX11_term 14 = .ok (.iconst 1, 1) := by decide +kernel
theorem dX11_term_15 : decode cX11_term 15 = .ok (.ireturn, 1) := by decide +kernel
theorem dX11_isWhat_0 : decode cX11_isWhat 0 = .ok (.iload_n 1, 1) := by decide +kernel
theorem dX11_isWhat_1 : decode cX11_isWhat 1 = .ok (.ifCond .lt 8, 3) := by decide +kernel
theorem dX11_isWhat_4 : decode cX11_isWhat 4 = .ok (.iload_n 1, 1) := by decide +kernel
theorem dX11_isWhat_5 : decode cX11_isWhat 5 = .ok (.iconst 5, 1) := by decide +kernel
theorem dX11_isWhat_6 : decode cX11_isWhat 6 = .ok (.if_icmp .le 32, 3) := by decide +kernel
theorem dX11_isWhat_9 : decode cX11_isWhat 9 = .ok (.iload_n 1, 1) := by decide +kernel
theorem dX11_isWhat_10 : decode cX11_isWhat 10 = .ok (.bipush 10, 2) := by decide +kernel
theorem dX11_isWhat_12 : decode cX11_isWhat 12 = .ok (.if_icmp .lt 9, 3) := by decide +kernel
theorem dX11_isWhat_15 : decode cX11_isWhat 15 = .ok (.iload_n 1, 1) := by decide +kernel
theorem dX11_isWhat_16 : decode cX11_isWhat 16 = .ok (.bipush 17, 2) := by decide +kernel
theorem dX11_isWhat_18 : decode cX11_isWhat 18 = .ok (.if_icmp .le 20, 3) := by decide +kernel
theorem dX11_isWhat_21 : decode cX11_isWhat 21 = .ok (.iload_n 1, 1) := by decide +kernel
theorem dX11_isWhat_22 : decode cX11_isWhat 22 = .ok (.bipush 20, 2) := by decide +kernel
theorem dX11_isWhat_24 : decode cX11_isWhat 24 = .ok (.if_icmp .lt 18, 3) := by decide +kernel
theorem dX11_isWhat_27 : decode cX11_isWhat 27 = .ok (.aload_n 0, 1) := by decide +kernel
theorem dX11_isWhat_28 : decode cX11_isWhat 28 = .ok (.iload_n 1, 1) := by decide +kernel
theorem dX11_isWhat_29 : decode cX11_isWhat 29 = .ok (.bipush 20, 2) := by decide +kernel
theorem dX11_isWhat_31 : decode cX11_isWhat 31 = .ok (.isub, 1) := by decide +kernel
theorem dX11_isWhat_32 : decode cX11_isWhat 32 = .ok (.invokevirtual 264, 3) := by decide +kernel
theorem dX11_isWhat_35 : decode cX11_isWhat 35 = .ok (.ifCond .eq 7, 3) := by decide +kernel
theorem dX11_isWhat_38 : decode cX11_isWhat 38 = .ok (.iconst 1, 1) := by decide +kernel
theorem dX11_isWhat_39 : decode cX11_isWhat 39 = .ok (.goto 4, 3) := by decide +kernel
theorem dX11_isWhat_42 : decode cX11_isWhat 42 = .ok (.iconst 0, 1) := by decide +kernel
theorem dX11_isWhat_43 : decode cX11_isWhat 43 = .ok (.ireturn, 1) := by decide +kernel
theorem dX11_fits_0 : decode cX11_fits 0 = .ok (.iload_n 0, 1) := by decide +kernel
theorem dX11_fits_1 : decode cX11_fits 1 = .ok (.iconst 4, 1) := by decide +kernel
theorem dX11_fits_2 : decode cX11_fits 2 = .ok (.if_icmp .ge 18, 3) := by decide +kernel
theorem dX11_fits_5 : decode cX11_fits 5 = .ok (.iload_n 1, 1) := by decide +kernel
theorem dX11_fits_6 : decode cX11_fits 6 = .ok (.ifCond .eq 8, 3) := by decide +kernel
theorem dX11_fits_9 : decode cX11_fits 9 = .ok (.iload_n 1, 1) := by decide +kernel
theorem dX11_fits_10 : decode cX11_fits 10 = .ok (.iconst 1, 1) := by decide +kernel
theorem dX11_fits_11 : decode cX11_fits 11 = .ok (.if_icmp .ne 7, 3) := by decide +kernel
theorem dX11_fits_14 : decode cX11_fits 14 = .ok (.iconst 1, 1) := by decide +kernel
theorem dX11_fits_15 : decode cX11_fits 15 = .ok (.goto 4, 3) := by decide +kernel
theorem dX11_fits_18 : decode cX11_fits 18 = .ok (.iconst 0, 1) := by decide +kernel
theorem dX11_fits_19 : decode cX11_fits 19 = .ok (.ireturn, 1) := by decide +kernel
