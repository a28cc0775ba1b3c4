theorem dX12_init_27 : decode cX12_init 27 = .ok (.aload_n 0, 1) := by decide +kernel
theorem dX12_init_28 : decode cX12_init 28 = .ok (.iconst 2, 1) := by decide +kernel
theorem dX12_init_29 : decode cX12_init 29 = .ok (.newarray .int, 2) := by decide +kernel
theorem dX12_init_31 : decode cX12_init 31 = .ok (.putfield 20, 3) := by decide +kernel
theorem dX12_init_34 : decode cX12_init 34 = .ok (.aload_n 0, 1) := by decide +kernel
theorem dX12_init_35 : decode cX12_init 35 = .ok (.iconst 2, 1) := by decide +kernel
theorem dX12_init_36 : decode cX12_init 36 = .ok (.newarray .int, 2) := by decide +kernel
theorem dX12_init_38 : decode cX12_init 38 = .ok (.putfield 24, 3) := by decide +kernel
theorem dX12_init_41 : decode cX12_init 41 = .ok (.aload_n 0, 1) := by decide +kernel
theorem dX12_init_42 : decode cX12_init 42 = .ok (.iconst 2, 1) := by decide +kernel
theorem dX12_init_43 : decode cX12_init 43 = .ok (.newarray .int, 2) := by decide +kernel
theorem dX12_init_45 : decode cX12_init 45 = .ok (.putfield 27, 3) := by decide +kernel
theorem dX12_init_48 : decode cX12_init 48 = .ok (.aload_n 0, 1) := by decide +kernel
theorem dX12_init_49 : decode cX12_init 49 = .ok (.iconst 2, 1) := by decide +kernel
theorem dX12_init_50 : decode cX12_init 50 = .ok (.newarray .int, 2) := by decide +kernel
theorem dX12_init_52 : decode cX12_init 52 = .ok (.putfield 30, 3) := by decide +kernel
theorem dX12_init_55 : decode cX12_init 55 = .ok (.aload_n 0, 1) := by decide +kernel
theorem dX12_init_56 : decode cX12_init 56 = .ok (.bipush 32, 2) := by decide +kernel
theorem dX12_init_58 : decode cX12_init 58 = .ok (.newarray .int, 2) := by decide +kernel
theorem dX12_init_60 : decode cX12_init 60 = .ok (.putfield 33, 3) := by decide +kernel
theorem dX12_init_63 : decode cX12_init 63 = .ok (.aload_n 0, 1) := by decide +kernel
theorem dX12_init_64 : decode cX12_init 64 = .ok (.bipush 32, 2) := by decide +kernel
theorem dX12_init_66 : decode cX12_init 66 = .ok (.newarray .int, 2) := by decide +kernel
theorem dX12_init_68 : decode cX12_init 68 = .ok (.putfield 36, 3) := by decide +kernel
theorem dX12_init_71 : decode cX12_init 71 = .ok (.aload_n 0, 1) := by decide +kernel
theorem dX12_init_72 : decode cX12_init 72 = .ok (.sipush 256, 3) := by decide +kernel
theorem dX12_init_75 : decode cX12_init 75 = .ok (.newarray .int, 2) := by decide +kernel
theorem dX12_init_77 : decode cX12_init 77 = .ok (.putfield 39, 3) := by decide +kernel
theorem dX12_init_80 : decode cX12_init 80 = .ok (.aload_n 0, 1) := by decide +kernel
theorem dX12_init_81 : decode cX12_init 81 = .ok (.bipush 32, 2) := by decide +kernel
theorem dX12_init_83 : decode cX12_init 83 = .ok (.newarray .int, 2) := by decide +kernel
theorem dX12_init_85 : decode cX12_init 85 = .ok (.putfield 42, 3) := by decide +kernel
theorem dX12_init_88 : decode cX12_init 88 = .ok (.aload_n 0, 1) := by decide +kernel
theorem dX12_init_89 : decode cX12_init 89 = .ok (.bipush 8, 2) := by decide +kernel
theorem dX12_init_91 : decode cX12_init 91 = .ok (.newarray .int, 2) := by decide +kernel
theorem dX12_init_93 : decode cX12_init 93 = .ok (.putfield 45, 3) := by decide +kernel
theorem dX12_init_96 : decode cX12_init 96 = .ok (.aload_n 0, 1) := by decide +kernel
theorem dX12_init_97 : decode cX12_init 97 = .ok (.bipush 8, 2) := by decide +kernel
theorem dX12_init_99 : decode cX12_init 99 = .ok (.newarray .int, 2) := by decide +kernel
theorem dX12_init_101 : decode cX12_init 101 = .ok (.putfield 48, 3) := by decide +kernel
theorem dX12_init_104 : decode cX12_init 104 = .ok (.aload_n 0, 1) := by decide +kernel
theorem dX12_init_105 : decode cX12_init 105 = .ok (.iconst 2, 1) := by decide +kernel
theorem dX12_init_106 : decode cX12_init 106 = .ok (.newarray .boolean, 2) := by decide +kernel
theorem dX12_init_108 : decode cX12_init 108 = .ok (.putfield 51, 3) := by decide +kernel
theorem dX12_init_111 : decode cX12_init 111 = .ok (.aload_n 0, 1) := by decide +kernel
theorem dX12_init_112 : decode cX12_init 112 = .ok (.iconst 2, 1) := by decide +kernel
theorem dX12_init_113 : decode cX12_init 113 = .ok (.newarray .boolean, 2) := by decide +kernel
theorem dX12_init_115 : decode cX12_init 115 = .ok (.putfield 55, 3) := by decide +kernel
theorem dX12_init_118 : decode cX12_init 118 = .ok (.aload_n 0, 1) := by decide +kernel
theorem dX12_init_119 : decode cX12_init 119 = .ok (.bipush 8, 2) := by decide +kernel
theorem dX12_init_121 : decode cX12_init 121 = .ok (.newarray .boolean, 2) := by decide +kernel
theorem dX12_init_123 : decode cX12_init 123 = .ok (.putfield 58, 3) := by decide +kernel
theorem dX12_init_126 : decode cX12_init 126 = .ok (.aload_n 0, 1) := by decide +kernel
theorem dX12_init_127 : decode cX12_init 127 = .ok (.bipush 32, 2) := by decide +kernel
theorem dX12_init_129 : decode cX12_init 129 = .ok (.newarray .long, 2) := by decide +kernel
theorem dX12_init_131 : decode cX12_init 131 = .ok (.putfield 61, 3) := by decide +kernel
theorem dX12_init_134 : decode cX12_init 134 = .ok (.aload_n 0, 1) := by decide +kernel
theorem dX12_init_135 : decode cX12_init 135 = .ok (.sipush 800, 3) := by decide +kernel
theorem dX12_init_138 : decode cX12_init 138 = .ok (.newarray .int, 2) := by decide +kernel
theorem dX12_init_140 : decode cX12_init 140 = .ok (.putfield 65, 3) := by decide +kernel
theorem dX12_init_143 : decode cX12_init 143 = .ok (.aload_n 0, 1) := by decide +kernel
theorem dX12_init_144 : decode cX12_init 144 = .ok (.sipush 800, 3) := by decide +kernel
theorem dX12_init_147 : decode cX12_init 147 = .ok (.newarray .int, 2) := by decide +kernel
theorem dX12_init_149 : decode cX12_init 149 = .ok (.putfield 68, 3) := by decide +kernel
theorem dX12_init_152 : decode cX12_init 152 = .ok (.aload_n 0, 1) := by decide +kernel
theorem dX12_init_153 : decode cX12_init 153 = .ok (.bipush 90, 2) := by decide +kernel
theorem dX12_init_155 : decode cX12_init 155 = .ok (.newarray .int, 2) := by decide +kernel
theorem dX12_init_157 : decode cX12_init 157 = .ok (.putfield 71, 3) := by decide +kernel
theorem dX12_init_160 : decode cX12_init 160 = .ok (.aload_n 0, 1) := by decide +kernel
theorem dX12_init_161 : decode cX12_init 161 = .ok (.bipush 90, 2) := by decide +kernel
theorem dX12_init_163 : decode cX12_init 163 = .ok (.newarray .int, 2) := by decide +kernel
theorem dX12_init_165 : decode cX12_init 165 = .ok (.putfield 74, 3) := by decide +kernel
theorem dX12_init_168 : decode cX12_init 168 = .ok (.aload_n 0, 1) := by decide +kernel
theorem dX12_init_169 : decode cX12_init 169 = .ok (.bipush 70, 2) := by decide +kernel
theorem dX12_init_171 : decode cX12_init 171 = .ok (.newarray .int, 2) := by decide +kernel
theorem dX12_init_173 : decode cX12_init 173 = .ok (.putfield 77, 3) := by decide +kernel
theorem dX12_init_176 : decode cX12_init 176 = .ok (.aload_n 0, 1) := by decide +kernel
theorem dX12_init_177 : decode cX12_init 177 = .ok (.bipush 14, 2) := by decide +kernel
theorem dX12_init_179 : decode cX12_init 179 = .ok (.newarray .int, 2) := by decide +kernel
theorem dX12_init_181 : decode cX12_init 181 = .ok (.putfield 80, 3) := by decide +kernel
theorem dX12_init_184 : decode cX12_init 184 = .ok (.aload_n 0, 1) := by decide +kernel
theorem dX12_init_185 : decode cX12_init 185 = .ok (.bipush 14, 2) := by decide +kernel
theorem dX12_init_187 : decode cX12_init 187 = .ok (.newarray .int, 2) := by decide +kernel
theorem dX12_init_189 : decode cX12_init 189 = .ok (.putfield 83, 3) := by decide +kernel
theorem dX12_init_192 : decode cX12_init 192 = .ok (.aload_n 0, 1) := by decide +kernel
theorem dX12_init_193 : decode cX12_init 193 = .ok (.bipush 6, 2) := by decide +kernel
theorem dX12_init_195 : decode cX12_init 195 = .ok (.newarray .long, 2) := by decide +kernel
theorem dX12_init_197 : decode cX12_init 197 = .ok (.putfield 86, 3) := by decide +kernel
theorem dX12_init_200 : decode cX12_init 200 = .ok (.aload_n 0, 1) := by decide +kernel
theorem dX12_init_201 : decode cX12_init 201 = .ok (.bipush 8, 2) := by decide +kernel
theorem dX12_init_203 : decode cX12_init 203 = .ok (.newarray .int, 2) := by decide +kernel
theorem dX12_init_205 : decode cX12_init 205 = .ok (.putfield 89, 3) := by decide +kernel
theorem dX12_init_208 : decode cX12_init 208 = .ok (.aload_n 0, 1) := by decide +kernel
theorem dX12_init_209 : decode cX12_init 209 = .ok (.bipush 8, 2) := by decide +kernel
theorem dX12_init_211 : decode cX12_init 211 = .ok (.newarray .int, 2) := by decide +kernel
theorem dX12_init_213 : decode cX12_init 213 = .ok (.putfield 92, 3) := by decide +kernel
theorem dX12_init_216 : decode cX12_init 216 = .ok (.aload_n 0, 1) := by decide +kernel
theorem dX12_init_217 : decode cX12_init 217 = .ok (.bipush 40, 2) := by decide +kernel
theorem dX12_init_219 : decode cX12_init 219 = .ok (.newarray .int, 2) := by decide +kernel
theorem dX12_init_221 : decode cX12_init 221 = .ok (.putfield 95, 3) := by decide +kernel
theorem dX12_init_224 : decode cX12_init 224 = .ok (.aload_n 0, 1) := by decide +kernel
theorem dX12_init_225 : decode cX12_init 225 = .ok (.bipush 40, 2) := by decide +kernel
theorem dX12_init_227 : decode cX12_init 227 = .ok (.newarray .int, 2) := by decide +kernel
theorem dX12_init_229 : decode cX12_init 229 = .ok (.putfield 98, 3) := by decide +kernel
theorem dX12_init_232 : decode cX12_init 232 = .ok (.aload_n 0, 1) := by decide +kernel
theorem dX12_init_233 : decode cX12_init 233 = .ok (.bipush 40, 2) := by decide +kernel
theorem dX12_init_235 : decode cX12_init 235 = .ok (.newarray .int, 2) := by decide +kernel
theorem dX12_init_237 : decode cX12_init 237 = .ok (.putfield 101, 3) := by decide +kernel
theorem dX12_init_240 : decode cX12_init 240 = .ok (.aload_n 0, 1) := by decide +kernel
theorem dX12_init_241 : decode cX12_init 241 = .ok (.bipush 40, 2) := by decide +kernel
theorem dX12_init_243 : decode cX12_init 243 = .ok (.newarray .int, 2) := by decide +kernel
theorem dX12_init_245 : decode cX12_init 245 = .ok (.putfield 104, 3) := by decide +kernel
theorem dX12_init_248 : decode cX12_init 248 = .ok (.aload_n 0, 1) := by decide +kernel
theorem dX12_init_249 : decode cX12_init 249 = .ok (.bipush 40, 2) := by decide +kernel
theorem dX12_init_251 : decode cX12_init 251 = .ok (.newarray .int, 2) := by decide +kernel
theorem dX12_init_253 : decode cX12_init 253 = .ok (.putfield 107, 3) := by decide +kernel
theorem dX12_init_256 : decode cX12_init 256 = .ok (.aload_n 0, 1) := by decide +kernel
theorem dX12_init_257 : decode cX12_init 257 = .ok (.bipush 40, 2) := by decide +kernel
theorem dX12_init_259 : decode cX12_init 259 = .ok (.newarray .int, 2) := by decide +kernel
theorem dX12_init_261 : decode cX12_init 261 = .ok (.putfield 110, 3) := by decide +kernel
theorem dX12_init_264 : decode cX12_init 264 = .ok (.aload_n 0, 1) := by decide +kernel
theorem dX12_init_265 : decode cX12_init 265 = .ok (.bipush 40, 2) := by decide +kernel
theorem dX12_init_267 : decode cX12_init 267 = .ok (.newarray .boolean, 2) := by decide +kernel
theorem dX12_init_269 : decode cX12_init 269 = .ok (.putfield 113, 3) := by decide +kernel
theorem dX12_init_272 : decode cX12_init 272 = .ok (.aload_n 0, 1) := by decide +kernel
theorem dX12_init_273 : decode cX12_init 273 = .ok (.iconst 3, 1) := by decide +kernel
theorem dX12_init_274 : decode cX12_init 274 = .ok (.newarray .int, 2) := by decide +kernel
theorem dX12_init_276 : decode cX12_init 276 = .ok (.putfield 116, 3) := by decide +kernel
theorem dX12_init_279 : decode cX12_init 279 = .ok (.aload_n 0, 1) := by decide +kernel
theorem dX12_init_280 : decode cX12_init 280 = .ok (.iconst 3, 1) := by decide +kernel
theorem dX12_init_281 : decode cX12_init 281 = .ok (.newarray .int, 2) := by decide +kernel
theorem dX12_init_283 : decode cX12_init 283 = .ok (.putfield 119, 3) := by decide +kernel
theorem dX12_init_286 : decode cX12_init 286 = .ok (.aload_n 0, 1) := by decide +kernel
theorem dX12_init_287 : decode cX12_init 287 = .ok (.bipush 120, 2) := by decide +kernel
theorem dX12_init_289 : decode cX12_init 289 = .ok (.newarray .int, 2) := by decide +kernel
theorem dX12_init_291 : decode cX12_init 291 = .ok (.putfield 122, 3) := by decide +kernel
theorem dX12_init_294 : decode cX12_init 294 = .ok (.aload_n 0, 1) := by decide +kernel
theorem dX12_init_295 : decode cX12_init 295 = .ok (.bipush 120, 2) := by decide +kernel
theorem dX12_init_297 : decode cX12_init 297 = .ok (.newarray .int, 2) := by decide +kernel
theorem dX12_init_299 : decode cX12_init 299 = .ok (.putfield 125, 3) := by decide +kernel
theorem dX12_init_302 : decode cX12_init 302 = .ok (.aload_n 0, 1) := by decide +kernel
theorem dX12_init_303 : decode cX12_init 303 = .ok (.bipush 120, 2) := by decide +kernel
theorem dX12_init_305 : decode cX12_init 305 = .ok (.newarray .int, 2) := by decide +kernel
theorem dX12_init_307 : decode cX12_init 307 = .ok (.putfield 128, 3) := by decide +kernel
theorem dX12_init_310 : decode cX12_init 310 = .ok (.aload_n 0, 1) := by decide +kernel
theorem dX12_init_311 : decode cX12_init 311 = .ok (.bipush 120, 2) := by decide +kernel
theorem dX12_init_313 : decode cX12_init 313 = .ok (.newarray .int, 2) := by decide +kernel
theorem dX12_init_315 : decode cX12_init 315 = .ok (.putfield 131, 3) := by decide +kernel
theorem dX12_init_318 : decode cX12_init 318 = .ok (.aload_n 0, 1) := by decide +kernel
theorem dX12_init_319 : decode cX12_init 319 = .ok (.bipush 120, 2) := by decide +kernel
theorem dX12_init_321 : decode cX12_init 321 = .ok (.newarray .int, 2) := by decide +kernel
theorem dX12_init_323 : decode cX12_init 323 = .ok (.putfield 134, 3) := by decide +kernel
theorem dX12_init_326 : decode cX12_init 326 = .ok (.aload_n 0, 1) := by decide +kernel
theorem dX12_init_327 : decode cX12_init 327 = .ok (.bipush 120, 2) := by decide +kernel
theorem dX12_init_329 : decode cX12_init 329 = .ok (.newarray .int, 2) := by decide +kernel
theorem dX12_init_331 : decode cX12_init 331 = .ok (.putfield 137, 3) := by decide +kernel
theorem dX12_init_334 : decode cX12_init 334 = .ok (.aload_n 0, 1) := by decide +kernel
theorem dX12_init_335 : decode cX12_init 335 = .ok (.invokevirtual 140, 3) := by decide +kernel
theorem dX12_init_338 : decode cX12_init 338 = .ok (.iconst 0, 1) := by decide +kernel
theorem dX12_init_339 : decode cX12_init 339 = .ok (.istore_n 1, 1) := by decide +kernel
theorem dX12_init_340 : decode cX12_init 340 = .ok (.iload_n 1, 1) := by decide +kernel
theorem dX12_init_341 : decode cX12_init 341 = .ok (.iconst 3, 1) := by decide +kernel
theorem dX12_init_342 : decode cX12_init 342 = .ok (.if_icmp .ge 16, 3) := by decide +kernel
theorem dX12_init_345 : decode cX12_init 345 = .ok (.aload_n 0, 1) := by decide +kernel
theorem dX12_init_346 : decode cX12_init 346 = .ok (.getfield 116, 3) := by decide +kernel
theorem dX12_init_349 : decode cX12_init 349 = .ok (.iload_n 1, 1) := by decide +kernel
theorem dX12_init_350 : decode cX12_init 350 = .ok (.iconst (-1), 1) := by decide +kernel
theorem dX12_init_351 : decode cX12_init 351 = .ok (.iastore, 1) := by decide +kernel
theorem dX12_init_352 : decode cX12_init 352 = .ok (.iinc 1 1, 3) := by decide +kernel
theorem dX12_init_355 : decode cX12_init 355 = .ok (.goto (-15), 3) := by decide +kernel
theorem dX12_init_358 : decode cX12_init 358 = .ok (.return_, 1) := by decide +kernel
theorem dX12_sign_0 : decode cX12_sign 0 = .ok (.iload_n 1, 1) := by decide +kernel
theorem dX12_sign_1 : decode cX12_sign 1 = .ok (.aload_n 0, 1) := by decide +kernel
theorem dX12_sign_2 : decode cX12_sign 2 = .ok (.getfield 143, 3) := by decide +kernel
theorem dX12_sign_5 : decode cX12_sign 5 = .ok (.if_icmp .ge 16, 3) := by decide +kernel
theorem dX12_sign_8 : decode cX12_sign 8 = .ok (.aload_n 0, 1) := by decide +kernel
theorem dX12_sign_9 : decode cX12_sign 9 = .ok (.getfield 13, 3) := by decide +kernel
theorem dX12_sign_12 : decode cX12_sign 12 = .ok (.iload_n 1, 1) := by decide +kernel
theorem dX12_sign_13 : decode cX12_sign 13 = .ok (.baload, 1) := by decide +kernel
theorem dX12_sign_14 : decode cX12_sign 14 = .ok (.sipush 255, 3) := by decide +kernel
theorem dX12_sign_17 : decode cX12_sign 17 = .ok (.iand, 1) := by decide +kernel
theorem dX12_sign_18 : decode cX12_sign 18 = .ok (.goto 4, 3) := by decide +kernel
theorem dX12_sign_21 : decode cX12_sign 21 = .ok (.iconst 0, 1) := by decide +kernel
theorem dX12_sign_22 : decode cX12_sign 22 = .ok (.ireturn, 1) := by decide +kernel
theorem dX12_isLetter_0 : decode cX12_isLetter 0 = .ok (.iload_n 0, 1) := by decide +kernel
theorem dX12_isLetter_1 : decode cX12_isLetter 1 = .ok (.bipush 97, 2) := by decide +kernel
theorem dX12_isLetter_3 : decode cX12_isLetter 3 = .ok (.if_icmp .lt 13, 3) := by decide +kernel
theorem dX12_isLetter_6 : decode cX12_isLetter 6 = .ok (.iload_n 0, 1) := by decide +kernel
theorem dX12_isLetter_7 : decode cX12_isLetter 7 = .ok (.bipush 122, 2) := by decide +kernel
theorem dX12_isLetter_9 : decode cX12_isLetter 9 = .ok (.if_icmp .gt 7, 3) := by decide +kernel
theorem dX12_isLetter_12 : decode cX12_isLetter 12 = .ok (.iconst 1, 1) := by decide +kernel
theorem dX12_isLetter_13 : decode cX12_isLetter 13 = .ok (.goto 4, 3) := by decide +kernel
theorem dX12_isLetter_16 : decode cX12_isLetter 16 = .ok (.iconst 0, 1) := by decide +kernel
theorem dX12_isLetter_17 : decode cX12_isLetter 17 = .ok (.ireturn, 1) := by decide +kernel
theorem dX12_isDigit_0 : decode cX12_isDigit 0 = .ok (.iload_n 0, 1) := by decide +kernel
theorem dX12_isDigit_1 : decode cX12_isDigit 1 = .ok (.bipush 48, 2) := by decide +kernel
theorem dX12_isDigit_3 : decode cX12_isDigit 3 = .ok (.if_icmp .lt 13, 3) := by decide +kernel
theorem dX12_isDigit_6 : decode cX12_isDigit 6 = .ok (.iload_n 0, 1) := by decide +kernel
theorem dX12_isDigit_7 : decode cX12_isDigit 7 = .ok (.bipush 57, 2) := by decide +kernel
theorem dX12_isDigit_9 : decode cX12_isDigit 9 = .ok (.if_icmp .gt 7, 3) := by decide +kernel
theorem dX12_isDigit_12 : decode cX12_isDigit 12 = .ok (.iconst 1, 1) := by decide +kernel
theorem dX12_isDigit_13 : decode cX12_isDigit 13 = .ok (.goto 4, 3) := by decide +kernel
theorem dX12_isDigit_16 : decode cX12_isDigit 16 = .ok (.iconst 0, 1) := by decide +kernel
theorem dX12_isDigit_17 : decode cX12_isDigit 17 = .ok (.ireturn, 1) := by decide +kernel
theorem dX12_fails_0 : decode cX12_fails 0 = .ok (.aload_n 0, 1) := by decide +kernel
theorem dX12_fails_1 : decode cX12_fails 1 = .ok (.getfield 146, 3) := by decide +kernel
theorem dX12_fails_4 : decode cX12_fails 4 = .ok (.ifCond .le 4, 3) := by decide +kernel
theorem dX12_fails_7 : decode cX12_fails 7 = .ok (.return_, 1) := by decide +kernel
theorem dX12_fails_8 : decode cX12_fails 8 = .ok (.aload_n 0, 1) := by decide +kernel
theorem dX12_fails_9 : decode cX12_fails 9 = .ok (.iload_n 1, 1) := by decide +kernel
theorem dX12_fails_10 : decode cX12_fails 10 = .ok (.putfield 146, 3) := by decide +kernel
theorem dX12_fails_13 : decode cX12_fails 13 = .ok (.aload_n 0, 1) := by decide +kernel
theorem dX12_fails_14 : decode cX12_fails 14 = .ok (.iload_n 2, 1) := by decide +kernel
theorem dX12_fails_15 : decode cX12_fails 15 = .ok (.putfield 16, 3) := by decide +kernel
theorem dX12_fails_18 : decode cX12_fails 18 = .ok (.return_, 1) := by decide +kernel
theorem dX12_isGood_0 : decode cX12_isGood 0 = .ok (.aload_n 0, 1) := by decide +kernel
theorem dX12_isGood_1 : decode cX12_isGood 1 = .ok (.getfield 146, 3) := by decide +kernel
theorem dX12_isGood_4 : decode cX12_isGood 4 = .ok (.ifCond .ne 7, 3) := by decide +kernel
theorem dX12_isGood_7 : decode cX12_isGood 7 = .ok (.iconst 1, 1) := by decide +kernel
theorem dX12_isGood_8 : decode cX12_isGood 8 = .ok (.goto 4, 3) := by decide +kernel
theorem dX12_isGood_11 : decode cX12_isGood 11 = .ok (.iconst 0, 1) := by decide +kernel
theorem dX12_isGood_12 : decode cX12_isGood 12 = .ok (.ireturn, 1) := by decide +kernel
theorem dX12_isKept_0 : decode cX12_isKept 0 = .ok (.lload_n 0, 1) := by decide +kernel
theorem dX12_isKept_1 : decode cX12_isKept 1 = .ok (.ldc2_w 149, 3) := by decide +kernel
theorem dX12_isKept_4 : decode cX12_isKept 4 = .ok (.lcmp, 1) := by decide +kernel
theorem dX12_isKept_5 : decode cX12_isKept 5 = .ok (.ifCond .eq 91, 3) := by decide +kernel
theorem dX12_isKept_8 : decode cX12_isKept 8 = .ok (.lload_n 0, 1) := by decide +kernel
theorem dX12_isKept_9 : decode cX12_isKept 9 = .ok (.ldc2_w 151, 3) := by decide +kernel
theorem dX12_isKept_12 : decode cX12_isKept 12 = .ok (.lcmp, 1) := by decide +kernel
theorem dX12_isKept_13 : decode cX12_isKept 13 = .ok (.ifCond .eq 83, 3) := by decide +kernel
theorem dX12_isKept_16 : decode cX12_isKept 16 = .ok (.lload_n 0, 1) := by decide +kernel
theorem dX12_isKept_17 : decode cX12_isKept 17 = .ok (.ldc2_w 153, 3) := by decide +kernel
theorem dX12_isKept_20 : decode cX12_isKept 20 = .ok (.lcmp, 1) := by decide +kernel
theorem dX12_isKept_21 : decode cX12_isKept 21 = .ok (.ifCond .eq 75, 3) := by decide +kernel
theorem dX12_isKept_24 : decode cX12_isKept 24 = .ok (.lload_n 0, 1) := by decide +kernel
theorem dX12_isKept_25 : decode cX12_isKept 25 = .ok (.ldc2_w 155, 3) := by decide +kernel
theorem dX12_isKept_28 : decode cX12_isKept 28 = .ok (.lcmp, 1) := by decide +kernel
theorem dX12_isKept_29 : decode cX12_isKept 29 = .ok (.ifCond .eq 67, 3) := by decide +kernel
theorem dX12_isKept_32 : decode cX12_isKept 32 = .ok (.lload_n 0, 1) := by decide +kernel
theorem dX12_isKept_33 : decode cX12_isKept 33 = .ok (.ldc2_w 157, 3) := by decide +kernel
theorem dX12_isKept_36 : decode cX12_isKept 36 = .ok (.lcmp, 1) := by decide +kernel
theorem dX12_isKept_37 : decode cX12_isKept 37 = .ok (.ifCond .eq 59, 3) := by decide +kernel
theorem dX12_isKept_40 : decode cX12_isKept 40 = .ok (.lload_n 0, 1) := by decide +kernel
theorem dX12_isKept_41 : decode cX12_isKept 41 = .ok (.ldc2_w 159, 3) := by decide +kernel
theorem dX12_isKept_44 : decode cX12_isKept 44 = .ok (.lcmp, 1) := by decide +kernel
theorem dX12_isKept_45 : decode cX12_isKept 45 = .ok (.ifCond .eq 51, 3) := by decide +kernel
theorem dX12_isKept_48 : decode cX12_isKept 48 = .ok (.lload_n 0, 1) := by decide +kernel
theorem dX12_isKept_49 : decode cX12_isKept 49 = .ok (.ldc2_w 161, 3) := by decide +kernel
theorem dX12_isKept_52 : decode cX12_isKept 52 = .ok (.lcmp, 1) := by decide +kernel
theorem dX12_isKept_53 : decode cX12_isKept 53 = .ok (.ifCond .eq 43, 3) := by decide +kernel
theorem dX12_isKept_56 : decode cX12_isKept 56 = .ok (.lload_n 0, 1) := by decide +kernel
theorem dX12_isKept_57 : decode cX12_isKept 57 = .ok (.ldc2_w 163, 3) := by decide +kernel
theorem dX12_isKept_60 : decode cX12_isKept 60 = .ok (.lcmp, 1) := by decide +kernel
theorem dX12_isKept_61 : decode cX12_isKept 61 = .ok (.ifCond .eq 35, 3) := by decide +kernel
theorem dX12_isKept_64 : decode cX12_isKept 64 = .ok (.lload_n 0, 1) := by decide +kernel
theorem dX12_isKept_65 : decode cX12_isKept 65 = .ok (.ldc2_w 165, 3) := by decide +kernel
theorem dX12_isKept_68 : decode cX12_isKept 68 = .ok (.lcmp, 1) := by decide +kernel
theorem dX12_isKept_69 : decode cX12_isKept 69 = .ok (.ifCond .eq 27, 3) := by decide +kernel
theorem dX12_isKept_72 : decode cX12_isKept 72 = .ok (.lload_n 0, 1) := by decide +kernel
theorem dX12_isKept_73 : decode cX12_isKept 73 = .ok (.ldc2_w 167, 3) := by decide +kernel
theorem dX12_isKept_76 : decode cX12_isKept 76 = .ok (.lcmp, 1) := by decide +kernel
theorem dX12_isKept_77 : decode cX12_isKept 77 = .ok (.ifCond .eq 19, 3) := by decide +kernel
theorem dX12_isKept_80 : decode cX12_isKept 80 = .ok (.lload_n 0, 1) := by decide +kernel
theorem dX12_isKept_81 : decode cX12_isKept 81 = .ok (.ldc2_w 169, 3) := by decide +kernel
theorem dX12_isKept_84 : decode cX12_isKept 84 = .ok (.lcmp, 1) := by decide +kernel
theorem dX12_isKept_85 : decode cX12_isKept 85 = .ok (.ifCond .eq 11, 3) := by decide +kernel
theorem dX12_isKept_88 : decode cX12_isKept 88 = .ok (.lload_n 0, 1) := by decide +kernel
theorem dX12_isKept_89 : decode cX12_isKept 89 = .ok (.ldc2_w 171, 3) := by decide +kernel
theorem dX12_isKept_92 : decode cX12_isKept 92 = .ok (.lcmp, 1) := by decide +kernel
theorem dX12_isKept_93 : decode cX12_isKept 93 = .ok (.ifCond .ne 7, 3) := by decide +kernel
theorem dX12_isKept_96 : decode cX12_isKept 96 = .ok (.iconst 1, 1) := by decide +kernel
theorem dX12_isKept_97 : decode cX12_isKept 97 = .ok (.goto 4, 3) := by decide +kernel
theorem dX12_isKept_100 : decode cX12_isKept 100 = .ok (.iconst 0, 1) := by decide +kernel
theorem dX12_isKept_101 : decode cX12_isKept 101 = .ok (.istore_n 2, 1) := by decide +kernel
theorem dX12_isKept_102 : decode cX12_isKept 102 = .ok (.iload_n 2, 1) := by decide +kernel
theorem dX12_isKept_103 : decode cX12_isKept 103 = .ok (.ifCond .ne 99, 3) := by decide +kernel
theorem dX12_isKept_106 : decode cX12_isKept 106 = .ok (.lload_n 0, 1) := by decide +kernel
theorem dX12_isKept_107 : decode cX12_isKept 107 = .ok (.ldc2_w 173, 3) := by decide +kernel
theorem dX12_isKept_110 : decode cX12_isKept 110 = .ok (.lcmp, 1) := by decide +kernel
theorem dX12_isKept_111 : decode cX12_isKept 111 = .ok (.ifCond .eq 91, 3) := by decide +kernel
theorem dX12_isKept_114 : decode cX12_isKept 114 = .ok (.lload_n 0, 1) := by decide +kernel
theorem dX12_isKept_115 : decode cX12_isKept 115 = .ok (.ldc2_w 175, 3) := by decide +kernel
theorem dX12_isKept_118 : decode cX12_isKept 118 = .ok (.lcmp, 1) := by decide +kernel
theorem dX12_isKept_119 : decode cX12_isKept 119 = .ok (.ifCond .eq 83, 3) := by decide +kernel
theorem dX12_isKept_122 : decode cX12_isKept 122 = .ok (.lload_n 0, 1) := by decide +kernel
theorem dX12_isKept_123 : decode cX12_isKept 123 = .ok (.ldc2_w 177, 3) := by decide +kernel
theorem dX12_isKept_126 : decode cX12_isKept 126 = .ok (.lcmp, 1) := by decide +kernel
theorem dX12_isKept_127 : decode cX12_isKept 127 = .ok (.ifCond .eq 75, 3) := by decide +kernel
theorem dX12_isKept_130 : decode cX12_isKept 130 = .ok (.lload_n 0, 1) := by decide +kernel
theorem dX12_isKept_131 : decode cX12_isKept 131 = .ok (.ldc2_w 179, 3) := by decide +kernel
theorem dX12_isKept_134 : decode cX12_isKept 134 = .ok (.lcmp, 1) := by decide +kernel
theorem dX12_isKept_135 : decode cX12_isKept 135 = .ok (.ifCond .eq 67, 3) := by decide +kernel
theorem dX12_isKept_138 : decode cX12_isKept 138 = .ok (.lload_n 0, 1) := by decide +kernel
theorem dX12_isKept_139 : decode cX12_isKept 139 = .ok (.ldc2_w 181, 3) := by decide +kernel
theorem dX12_isKept_142 : decode cX12_isKept 142 = .ok (.lcmp, 1) := by decide +kernel
theorem dX12_isKept_143 : decode cX12_isKept 143 = .ok (.ifCond .eq 59, 3) := by decide +kernel
theorem dX12_isKept_146 : decode cX12_isKept 146 = .ok (.lload_n 0, 1) := by decide +kernel
theorem dX12_isKept_147 : decode cX12_isKept 147 = .ok (.ldc2_w 183, 3) := by decide +kernel
theorem dX12_isKept_150 : decode cX12_isKept 150 = .ok (.lcmp, 1) := by decide +kernel
theorem dX12_isKept_151 : decode cX12_isKept 151 = .ok (.ifCond .eq 51, 3) := by decide +kernel
theorem dX12_isKept_154 : decode cX12_isKept 154 = .ok (.lload_n 0, 1) := by decide +kernel
theorem dX12_isKept_155 : decode cX12_isKept 155 = .ok (.ldc2_w 185, 3) := by decide +kernel
theorem dX12_isKept_158 : decode cX12_isKept 158 = .ok (.lcmp, 1) := by decide +kernel
theorem dX12_isKept_159 : decode cX12_isKept 159 = .ok (.ifCond .eq 43, 3) := by decide +kernel
theorem dX12_isKept_162 : decode cX12_isKept 162 = .ok (.lload_n 0, 1) := by decide +kernel
theorem dX12_isKept_163 : decode cX12_isKept 163 = .ok (.ldc2_w 187, 3) := by decide +kernel
theorem dX12_isKept_166 : decode cX12_isKept 166 = .ok (.lcmp, 1) := by decide +kernel
theorem dX12_isKept_167 : decode cX12_isKept 167 = .ok (.ifCond .eq 35, 3) := by decide +kernel
theorem dX12_isKept_170 : decode cX12_isKept 170 = .ok (.lload_n 0, 1) := by decide +kernel
theorem dX12_isKept_171 : decode cX12_isKept 171 = .ok (.ldc2_w 189, 3) := by decide +kernel
theorem dX12_isKept_174 : decode cX12_isKept 174 = .ok (.lcmp, 1) := by decide +kernel
theorem dX12_isKept_175 : decode cX12_isKept 175 = .ok (.ifCond .eq 27, 3) := by decide +kernel
theorem dX12_isKept_178 : decode cX12_isKept 178 = .ok (.lload_n 0, 1) := by decide +kernel
theorem dX12_isKept_179 : decode cX12_isKept 179 = .ok (.ldc2_w 191, 3) := by decide +kernel
theorem dX12_isKept_182 : decode cX12_isKept 182 = .ok (.lcmp, 1) := by decide +kernel
theorem dX12_isKept_183 : decode cX12_isKept 183 = .ok (.ifCond .eq 19, 3) := by decide +kernel
theorem dX12_isKept_186 : decode cX12_isKept 186 = .ok (.lload_n 0, 1) := by decide +kernel
theorem dX12_isKept_187 : decode cX12_isKept 187 = .ok (.ldc2_w 193, 3) := by decide +kernel
theorem dX12_isKept_190 : decode cX12_isKept 190 = .ok (.lcmp, 1) := by decide +kernel
theorem dX12_isKept_191 : decode cX12_isKept 191 = .ok (.ifCond .eq 11, 3) := by decide +kernel
theorem dX12_isKept_194 : decode cX12_isKept 194 = .ok (.lload_n 0, 1) := by decide +kernel
theorem dX12_isKept_195 : decode cX12_isKept 195 = .ok (.ldc2_w 195, 3) := by decide +kernel
theorem dX12_isKept_198 : decode cX12_isKept 198 = .ok (.lcmp, 1) := by decide +kernel
theorem dX12_isKept_199 : decode cX12_isKept 199 = .ok (.ifCond .ne 7, 3) := by decide +kernel
theorem dX12_isKept_202 : decode cX12_isKept 202 = .ok (.iconst 1, 1) := by decide +kernel
theorem dX12_isKept_203 : decode cX12_isKept 203 = .ok (.goto 4, 3) := by decide +kernel
theorem dX12_isKept_206 : decode cX12_isKept 206 = .ok (.iconst 0, 1) := by decide +kernel
theorem dX12_isKept_207 : decode cX12_isKept 207 = .ok (.ireturn, 1) := by decide +kernel
theorem dX12_isSign_0 : decode cX12_isSign 0 = .ok (.iload_n 1, 1) := by decide +kernel
theorem dX12_isSign_1 : decode cX12_isSign 1 = .ok (.bipush 59, 2) := by decide +kernel
theorem dX12_isSign_3 : decode cX12_isSign 3 = .ok (.if_icmp .eq 58, 3) := by decide +kernel
theorem dX12_isSign_6 : decode cX12_isSign 6 = .ok (.aload_n 0, 1) := by decide +kernel
theorem dX12_isSign_7 : decode cX12_isSign 7 = .ok (.getfield 197, 3) := by decide +kernel
theorem dX12_isSign_10 : decode cX12_isSign 10 = .ok (.ifCond .eq 55, 3) := by decide +kernel
theorem dX12_isSign_13 : decode cX12_isSign 13 = .ok (.iload_n 1, 1) := by decide +kernel
theorem dX12_isSign_14 : decode cX12_isSign 14 = .ok (.bipush 40, 2) := by decide +kernel
theorem dX12_isSign_16 : decode cX12_isSign 16 = .ok (.if_icmp .eq 45, 3) := by decide +kernel
theorem dX12_isSign_19 : decode cX12_isSign 19 = .ok (.iload_n 1, 1) := by decide +kernel
theorem dX12_isSign_20 : decode cX12_isSign 20 = .ok (.bipush 41, 2) := by decide +kernel
theorem dX12_isSign_22 : decode cX12_isSign 22 = .ok (.if_icmp .eq 39, 3) := by decide +kernel
theorem dX12_isSign_25 : decode cX12_isSign 25 = .ok (.iload_n 1, 1) := by decide +kernel
theorem dX12_isSign_26 : decode cX12_isSign 26 = .ok (.bipush 60, 2) := by decide +kernel
theorem dX12_isSign_28 : decode cX12_isSign 28 = .ok (.if_icmp .eq 33, 3) := by decide +kernel
theorem dX12_isSign_31 : decode cX12_isSign 31 = .ok (.iload_n 1, 1) := by decide +kernel
theorem dX12_isSign_32 : decode cX12_isSign 32 = .ok (.bipush 62, 2) := by decide +kernel
theorem dX12_isSign_34 : decode cX12_isSign 34 = .ok (.if_icmp .eq 27, 3) := by decide +kernel
theorem dX12_isSign_37 : decode cX12_isSign 37 = .ok (.iload_n 1, 1) := by decide +kernel
theorem dX12_isSign_38 : decode cX12_isSign 38 = .ok (.bipush 61, 2) := by decide +kernel
theorem dX12_isSign_40 : decode cX12_isSign 40 = .ok (.if_icmp .eq 21, 3) := by decide +kernel
theorem dX12_isSign_43 : decode cX12_isSign 43 = .ok (.iload_n 1, 1) := by decide +kernel
theorem dX12_isSign_44 : decode cX12_isSign 44 = .ok (.bipush 43, 2) := by decide +kernel
theorem dX12_isSign_46 : decode cX12_isSign 46 = .ok (.if_icmp .eq 15, 3) := by decide +kernel
theorem dX12_isSign_49 : decode cX12_isSign 49 = .ok (.iload_n 1, 1) := by decide +kernel
theorem dX12_isSign_50 : decode cX12_isSign 50 = .ok (.bipush 45, 2) := by decide +kernel
theorem dX12_isSign_52 : decode cX12_isSign 52 = .ok (.if_icmp .eq 9, 3) := by decide +kernel
theorem dX12_isSign_55 : decode cX12_isSign 55 = .ok (.iload_n 1, 1) := by decide +kernel
theorem dX12_isSign_56 : decode cX12_isSign 56 = .ok (.bipush 42, 2) := by decide +kernel
theorem dX12_isSign_58 : decode cX12_isSign 58 = .ok (.if_icmp .ne 7, 3) := by decide +kernel
theorem dX12_isSign_61 : decode cX12_isSign 61 = .ok (.iconst 1, 1) := by decide +kernel
theorem dX12_isSign_62 : decode cX12_isSign 62 = .ok (.goto 4, 3) := by decide +kernel
theorem dX12_isSign_65 : decode cX12_isSign 65 = .ok (.iconst 0, 1) := by decide +kernel
theorem dX12_isSign_66 : decode cX12_isSign 66 = .ok (.ireturn, 1) := by decide +kernel
theorem dX12_goOn_0 : decode cX12_goOn 0 = .ok (.aload_n 0, 1) := by decide +kernel
theorem dX12_goOn_1 : decode cX12_goOn 1 = .ok (.aload_n 0, 1) := by decide +kernel
theorem dX12_goOn_2 : decode cX12_goOn 2 = .ok (.getfield 201, 3) := by decide +kernel
theorem dX12_goOn_5 : decode cX12_goOn 5 = .ok (.putfield 204, 3) := by decide +kernel
theorem dX12_goOn_8 : decode cX12_goOn 8 = .ok (.aload_n 0, 1) := by decide +kernel
theorem dX12_goOn_9 : decode cX12_goOn 9 = .ok (.getfield 204, 3) := by decide +kernel
theorem dX12_goOn_12 : decode cX12_goOn 12 = .ok (.aload_n 0, 1) := by decide +kernel
theorem dX12_goOn_13 : decode cX12_goOn 13 = .ok (.getfield 143, 3) := by decide +kernel
theorem dX12_goOn_16 : decode cX12_goOn 16 = .ok (.if_icmp .ge 42, 3) := by decide +kernel
theorem dX12_goOn_19 : decode cX12_goOn 19 = .ok (.aload_n 0, 1) := by decide +kernel
theorem dX12_goOn_20 : decode cX12_goOn 20 = .ok (.aload_n 0, 1) := by decide +kernel
theorem dX12_goOn_21 : decode cX12_goOn 21 = .ok (.getfield 204, 3) := by decide +kernel
theorem dX12_goOn_24 : decode cX12_goOn 24 = .ok (.invokevirtual 207, 3) := by decide +kernel
theorem dX12_goOn_27 : decode cX12_goOn 27 = .ok (.bipush 32, 2) := by decide +kernel
theorem dX12_goOn_29 : decode cX12_goOn 29 = .ok (.if_icmp .eq 16, 3) := by decide +kernel
theorem dX12_goOn_32 : decode cX12_goOn 32 = .ok (.aload_n 0, 1) := by decide +kernel
theorem dX12_goOn_33 : decode cX12_goOn 33 = .ok (.aload_n 0, 1) := by decide +kernel
theorem dX12_goOn_34 : decode cX12_goOn 34 = .ok (.getfield 204, 3) := by decide +kernel
theorem dX12_goOn_37 : decode cX12_goOn 37 = .ok (.invokevirtual 207, 3) := by decide +kernel
theorem dX12_goOn_40 : decode cX12_goOn 40 = .ok (.bipush 10, 2) := by decide +kernel
theorem dX12_goOn_42 : decode cX12_goOn 42 = .ok (.if_icmp .ne 16, 3) := by decide +kernel
theorem dX12_goOn_45 : decode cX12_goOn 45 = .ok (.aload_n 0, 1) := by decide +kernel
theorem dX12_goOn_46 : decode cX12_goOn 46 = .ok (.dup, 1) := by decide +kernel
theorem dX12_goOn_47 : decode cX12_goOn 47 = .ok (.getfield 204, 3) := by decide +kernel
theorem dX12_goOn_50 : decode cX12_goOn 50 = .ok (.iconst 1, 1) := by decide +kernel
theorem dX12_goOn_51 : decode cX12_goOn 51 = .ok (.iadd, 1) := by decide +kernel
theorem dX12_goOn_52 : decode cX12_goOn 52 = .ok (.putfield 204, 3) := by decide +kernel
theorem dX12_goOn_55 : decode cX12_goOn 55 = .ok (.goto (-47), 3) := by decide +kernel
theorem dX12_goOn_58 : decode cX12_goOn 58 = .ok (.aload_n 0, 1) := by decide +kernel
theorem dX12_goOn_59 : decode cX12_goOn 59 = .ok (.aload_n 0, 1) := by decide +kernel
theorem dX12_goOn_60 : decode cX12_goOn 60 = .ok (.getfield 204, 3) := by decide +kernel
theorem dX12_goOn_63 : decode cX12_goOn 63 = .ok (.invokevirtual 207, 3) := by decide +kernel
theorem dX12_goOn_66 : decode cX12_goOn 66 = .ok (.istore_n 1, 1) := by decide +kernel
theorem dX12_goOn_67 : decode cX12_goOn 67 = .ok (.aload_n 0, 1) := by decide +kernel
theorem dX12_goOn_68 : decode cX12_goOn 68 = .ok (.aload_n 0, 1) := by decide +kernel
theorem dX12_goOn_69 : decode cX12_goOn 69 = .ok (.getfield 204, 3) := by decide +kernel
theorem dX12_goOn_72 : decode cX12_goOn 72 = .ok (.iconst 1, 1) := by decide +kernel
theorem dX12_goOn_73 : decode cX12_goOn 73 = .ok (.iadd, 1) := by decide +kernel
theorem dX12_goOn_74 : decode cX12_goOn 74 = .ok (.putfield 201, 3) := by decide +kernel
theorem dX12_goOn_77 : decode cX12_goOn 77 = .ok (.aload_n 0, 1) := by decide +kernel
theorem dX12_goOn_78 : decode cX12_goOn 78 = .ok (.getfield 204, 3) := by decide +kernel
theorem dX12_goOn_81 : decode cX12_goOn 81 = .ok (.aload_n 0, 1) := by decide +kernel
theorem dX12_goOn_82 : decode cX12_goOn 82 = .ok (.getfield 143, 3) := by decide +kernel
theorem dX12_goOn_85 : decode cX12_goOn 85 = .ok (.if_icmp .lt 27, 3) := by decide +kernel
theorem dX12_goOn_88 : decode cX12_goOn 88 = .ok (.aload_n 0, 1) := by decide +kernel
theorem dX12_goOn_89 : decode cX12_goOn 89 = .ok (.iconst 0, 1) := by decide +kernel
theorem dX12_goOn_90 : decode cX12_goOn 90 = .ok (.putfield 211, 3) := by decide +kernel
theorem dX12_goOn_93 : decode cX12_goOn 93 = .ok (.aload_n 0, 1) := by decide +kernel
theorem dX12_goOn_94 : decode cX12_goOn 94 = .ok (.aload_n 0, 1) := by decide +kernel
theorem dX12_goOn_95 : decode cX12_goOn 95 = .ok (.getfield 143, 3) := by decide +kernel
theorem dX12_goOn_98 : decode cX12_goOn 98 = .ok (.putfield 204, 3) := by decide +kernel
theorem dX12_goOn_101 : decode cX12_goOn 101 = .ok (.aload_n 0, 1) := by decide +kernel
theorem dX12_goOn_102 : decode cX12_goOn 102 = .ok (.aload_n 0, 1) := by decide +kernel
theorem dX12_goOn_103 : decode cX12_goOn 103 = .ok (.getfield 143, 3) := by decide +kernel
theorem dX12_goOn_106 : decode cX12_goOn 106 = .ok (.putfield 201, 3) := by decide +kernel
theorem dX12_goOn_109 : decode cX12_goOn 109 = .ok (.goto 269, 3) := by decide +kernel
theorem dX12_goOn_112 : decode cX12_goOn 112 = .ok (.iload_n 1, 1) := by decide +kernel
theorem dX12_goOn_113 : decode cX12_goOn 113 = .ok (.invokestatic 214, 3) := by decide +kernel
theorem dX12_goOn_116 : decode cX12_goOn 116 = .ok (.ifCond .eq 123, 3) := by decide +kernel
theorem dX12_goOn_119 : decode cX12_goOn 119 = .ok (.aload_n 0, 1) := by decide +kernel
theorem dX12_goOn_120 : decode cX12_goOn 120 = .ok (.aload_n 0, 1) := by decide +kernel
theorem dX12_goOn_121 : decode cX12_goOn 121 = .ok (.getfield 201, 3) := by decide +kernel
theorem dX12_goOn_124 : decode cX12_goOn 124 = .ok (.invokevirtual 207, 3) := by decide +kernel
theorem dX12_goOn_127 : decode cX12_goOn 127 = .ok (.invokestatic 214, 3) := by decide +kernel
theorem dX12_goOn_130 : decode cX12_goOn 130 = .ok (.ifCond .eq 16, 3) := by decide +kernel
theorem dX12_goOn_133 : decode cX12_goOn 133 = .ok (.aload_n 0, 1) := by decide +kernel
theorem dX12_goOn_134 : decode cX12_goOn 134 = .ok (.dup, 1) := by decide +kernel
theorem dX12_goOn_135 : decode cX12_goOn 135 = .ok (.getfield 201, 3) := by decide +kernel
theorem dX12_goOn_138 : decode cX12_goOn 138 = .ok (.iconst 1, 1) := by decide +kernel
theorem dX12_goOn_139 : decode cX12_goOn 139 = .ok (.iadd, 1) := by decide +kernel
theorem dX12_goOn_140 : decode cX12_goOn 140 = .ok (.putfield 201, 3) := by decide +kernel
theorem dX12_goOn_143 : decode cX12_goOn 143 = .ok (.goto (-24), 3) := by decide +kernel
theorem dX12_goOn_146 : decode cX12_goOn 146 = .ok (.aload_n 0, 1) := by decide +kernel
theorem dX12_goOn_147 : decode cX12_goOn 147 = .ok (.lconst 0, 1) := by decide +kernel
theorem dX12_goOn_148 : decode cX12_goOn 148 = .ok (.putfield 218, 3) := by decide +kernel
theorem dX12_goOn_151 : decode cX12_goOn 151 = .ok (.aload_n 0, 1) := by decide +kernel
theorem dX12_goOn_152 : decode cX12_goOn 152 = .ok (.getfield 204, 3) := by decide +kernel
theorem dX12_goOn_155 : decode cX12_goOn 155 = .ok (.istore_n 2, 1) := by decide +kernel
theorem dX12_goOn_156 : decode cX12_goOn 156 = .ok (.iload_n 2, 1) := by decide +kernel
theorem dX12_goOn_157 : decode cX12_goOn 157 = .ok (.aload_n 0, 1) := by decide +kernel
theorem dX12_goOn_158 : decode cX12_goOn 158 = .ok (.getfield 201, 3) := by decide +kernel
theorem dX12_goOn_161 : decode cX12_goOn 161 = .ok (.if_icmp .ge 38, 3) := by decide +kernel
theorem dX12_goOn_164 : decode cX12_goOn 164 = .ok (.iload_n 2, 1) := by decide +kernel
theorem dX12_goOn_165 : decode cX12_goOn 165 = .ok (.aload_n 0, 1) := by decide +kernel
theorem dX12_goOn_166 : decode cX12_goOn 166 = .ok (.getfield 204, 3) := by decide +kernel
theorem dX12_goOn_169 : decode cX12_goOn 169 = .ok (.bipush 8, 2) := by decide +kernel
theorem dX12_goOn_171 : decode cX12_goOn 171 = .ok (.iadd, 1) := by decide +kernel
theorem dX12_goOn_172 : decode cX12_goOn 172 = .ok (.if_icmp .ge 27, 3) := by decide +kernel
theorem dX12_goOn_175 : decode cX12_goOn 175 = .ok (.aload_n 0, 1) := by decide +kernel
theorem dX12_goOn_176 : decode cX12_goOn 176 = .ok (.aload_n 0, 1) := by decide +kernel
theorem dX12_goOn_177 : decode cX12_goOn 177 = .ok (.getfield 218, 3) := by decide +kernel
theorem dX12_goOn_180 : decode cX12_goOn 180 = .ok (.bipush 8, 2) := by decide +kernel
theorem dX12_goOn_182 : decode cX12_goOn 182 = .ok (.lshl, 1) := by decide +kernel
theorem dX12_goOn_183 : decode cX12_goOn 183 = .ok (.aload_n 0, 1) := by decide +kernel
theorem dX12_goOn_184 : decode cX12_goOn 184 = .ok (.iload_n 2, 1) := by decide +kernel
theorem dX12_goOn_185 : decode cX12_goOn 185 = .ok (.invokevirtual 207, 3) := by decide +kernel
theorem dX12_goOn_188 : decode cX12_goOn 188 = .ok (.i2l, 1) := by decide +kernel
theorem dX12_goOn_189 : decode cX12_goOn 189 = .ok (.lor, 1) := by decide +kernel
theorem dX12_goOn_190 : decode cX12_goOn 190 = .ok (.putfield 218, 3) := by decide +kernel
theorem dX12_goOn_193 : decode cX12_goOn 193 = .ok (.iinc 2 1, 3) := by decide +kernel
theorem dX12_goOn_196 : decode cX12_goOn 196 = .ok (.goto (-40), 3) := by decide +kernel
theorem dX12_goOn_199 : decode cX12_goOn 199 = .ok (.aload_n 0, 1) := by decide +kernel
theorem dX12_goOn_200 : decode cX12_goOn 200 = .ok (.aload_n 0, 1) := by decide +kernel
theorem dX12_goOn_201 : decode cX12_goOn 201 = .ok (.getfield 201, 3) := by decide +kernel
theorem dX12_goOn_204 : decode cX12_goOn 204 = .ok (.aload_n 0, 1) := by decide +kernel
theorem dX12_goOn_205 : decode cX12_goOn 205 = .ok (.getfield 204, 3) := by decide +kernel
theorem dX12_goOn_208 : decode cX12_goOn 208 = .ok (.isub, 1) := by decide +kernel
theorem dX12_goOn_209 : decode cX12_goOn 209 = .ok (.bipush 8, 2) := by decide +kernel
theorem dX12_goOn_211 : decode cX12_goOn 211 = .ok (.if_icmp .le 7, 3) := by decide +kernel
theorem dX12_goOn_214 : decode cX12_goOn 214 = .ok (.iconst 1, 1) := by decide +kernel
theorem dX12_goOn_215 : decode cX12_goOn 215 = .ok (.goto 18, 3) := by decide +kernel
theorem dX12_goOn_218 : decode cX12_goOn 218 = .ok (.aload_n 0, 1) := by decide +kernel
theorem dX12_goOn_219 : decode cX12_goOn 219 = .ok (.getfield 218, 3) := by decide +kernel
theorem dX12_goOn_222 : decode cX12_goOn 222 = .ok (.invokestatic 222, 3) := by decide +kernel
theorem dX12_goOn_225 : decode cX12_goOn 225 = .ok (.ifCond .eq 7, 3) := by decide +kernel
theorem dX12_goOn_228 : decode cX12_goOn 228 = .ok (.iconst 3, 1) := by decide +kernel
theorem dX12_goOn_229 : decode cX12_goOn 229 = .ok (.goto 4, 3) := by decide +kernel
theorem dX12_goOn_232 : decode cX12_goOn 232 = .ok (.iconst 2, 1) := by decide +kernel
theorem dX12_goOn_233 : decode cX12_goOn 233 = .ok (.putfield 211, 3) := by decide +kernel
theorem dX12_goOn_236 : decode cX12_goOn 236 = .ok (.goto 142, 3) := by decide +kernel
theorem dX12_goOn_239 : decode cX12_goOn 239 = .ok (.iload_n 1, 1) := by decide +kernel
theorem dX12_goOn_240 : decode cX12_goOn 240 = .ok (.invokestatic 226, 3) := by decide +kernel
theorem dX12_goOn_243 : decode cX12_goOn 243 = .ok (.ifCond .eq 118, 3) := by decide +kernel
theorem dX12_goOn_246 : decode cX12_goOn 246 = .ok (.aload_n 0, 1) := by decide +kernel
theorem dX12_goOn_247 : decode cX12_goOn 247 = .ok (.iconst 0, 1) := by decide +kernel
theorem dX12_goOn_248 : decode cX12_goOn 248 = .ok (.putfield 229, 3) := by decide +kernel
theorem dX12_goOn_251 : decode cX12_goOn 251 = .ok (.aload_n 0, 1) := by decide +kernel
theorem dX12_goOn_252 : decode cX12_goOn 252 = .ok (.aload_n 0, 1) := by decide +kernel
theorem dX12_goOn_253 : decode cX12_goOn 253 = .ok (.getfield 204, 3) := by decide +kernel
theorem dX12_goOn_256 : decode cX12_goOn 256 = .ok (.putfield 201, 3) := by decide +kernel
theorem dX12_goOn_259 : decode cX12_goOn 259 = .ok (.aload_n 0, 1) := by decide +kernel
theorem dX12_goOn_260 : decode cX12_goOn 260 = .ok (.aload_n 0, 1) := by decide +kernel
theorem dX12_goOn_261 : decode cX12_goOn 261 = .ok (.getfield 201, 3) := by decide +kernel
theorem dX12_goOn_264 : decode cX12_goOn 264 = .ok (.invokevirtual 207, 3) := by decide +kernel
theorem dX12_goOn_267 : decode cX12_goOn 267 = .ok (.invokestatic 226, 3) := by decide +kernel
theorem dX12_goOn_270 : decode cX12_goOn 270 = .ok (.ifCond .eq 52, 3) := by decide +kernel
theorem dX12_goOn_273 : decode cX12_goOn 273 = .ok (.aload_n 0, 1) := by decide +kernel
theorem dX12_goOn_274 : decode cX12_goOn 274 = .ok (.getfield 201, 3) := by decide +kernel
theorem dX12_goOn_277 : decode cX12_goOn 277 = .ok (.aload_n 0, 1) := by decide +kernel
theorem dX12_goOn_278 : decode cX12_goOn 278 = .ok (.getfield 204, 3) := by decide +kernel
theorem dX12_goOn_281 : decode cX12_goOn 281 = .ok (.isub, 1) := by decide +kernel
theorem dX12_goOn_282 : decode cX12_goOn 282 = .ok (.iconst 4, 1) := by decide +kernel
theorem dX12_goOn_283 : decode cX12_goOn 283 = .ok (.if_icmp .ge 26, 3) := by decide +kernel
theorem dX12_goOn_286 : decode cX12_goOn 286 = .ok (.aload_n 0, 1) := by decide +kernel
theorem dX12_goOn_287 : decode cX12_goOn 287 = .ok (.bipush 10, 2) := by decide +kernel
theorem dX12_goOn_289 : decode cX12_goOn 289 = .ok (.aload_n 0, 1) := by decide +kernel
theorem dX12_goOn_290 : decode cX12_goOn 290 = .ok (.getfield 229, 3) := by decide +kernel
theorem dX12_goOn_293 : decode cX12_goOn 293 = .ok (.imul, 1) := by decide +kernel
theorem dX12_goOn_294 : decode cX12_goOn 294 = .ok (.aload_n 0, 1) := by decide +kernel
theorem dX12_goOn_295 : decode cX12_goOn 295 = .ok (.aload_n 0, 1) := by decide +kernel
theorem dX12_goOn_296 : decode cX12_goOn 296 = .ok (.getfield 201, 3) := by decide +kernel
theorem dX12_goOn_299 : decode cX12_goOn 299 = .ok (.invokevirtual 207, 3) := by decide +kernel
theorem dX12_goOn_302 : decode cX12_goOn 302 = .ok (.iadd, 1) := by decide +kernel
theorem dX12_goOn_303 : decode cX12_goOn 303 = .ok (.bipush 48, 2) := by decide +kernel
theorem dX12_goOn_305 : decode cX12_goOn 305 = .ok (.isub, 1) := by decide +kernel
theorem dX12_goOn_306 : decode cX12_goOn 306 = .ok (.putfield 229, 3) := by decide +kernel
theorem dX12_goOn_309 : decode cX12_goOn 309 = .ok (.aload_n 0, 1) := by decide +kernel
theorem dX12_goOn_310 : decode cX12_goOn 310 = .ok (.dup, 1) := by decide +kernel
theorem dX12_goOn_311 : decode cX12_goOn 311 = .ok (.getfield 201, 3) := by decide +kernel
theorem dX12_goOn_314 : decode cX12_goOn 314 = .ok (.iconst 1, 1) := by decide +kernel
theorem dX12_goOn_315 : decode cX12_goOn 315 = .ok (.iadd, 1) := by decide +kernel
theorem dX12_goOn_316 : decode cX12_goOn 316 = .ok (.putfield 201, 3) := by decide +kernel
theorem dX12_goOn_319 : decode cX12_goOn 319 = .ok (.goto (-60), 3) := by decide +kernel
theorem dX12_goOn_322 : decode cX12_goOn 322 = .ok (.aload_n 0, 1) := by decide +kernel
theorem dX12_goOn_323 : decode cX12_goOn 323 = .ok (.aload_n 0, 1) := by decide +kernel
theorem dX12_goOn_324 : decode cX12_goOn 324 = .ok (.getfield 201, 3) := by decide +kernel
theorem dX12_goOn_327 : decode cX12_goOn 327 = .ok (.aload_n 0, 1) := by decide +kernel
theorem dX12_goOn_328 : decode cX12_goOn 328 = .ok (.getfield 204, 3) := by decide +kernel
theorem dX12_goOn_331 : decode cX12_goOn 331 = .ok (.isub, 1) := by decide +kernel
theorem dX12_goOn_332 : decode cX12_goOn 332 = .ok (.iconst 4, 1) := by decide +kernel
theorem dX12_goOn_333 : decode cX12_goOn 333 = .ok (.if_icmp .gt 17, 3) := by decide +kernel
theorem dX12_goOn_336 : decode cX12_goOn 336 = .ok (.aload_n 0, 1) := by decide +kernel
theorem dX12_goOn_337 : decode cX12_goOn 337 = .ok (.aload_n 0, 1) := by decide +kernel
theorem dX12_goOn_338 : decode cX12_goOn 338 = .ok (.getfield 201, 3) := by decide +kernel
theorem dX12_goOn_341 : decode cX12_goOn 341 = .ok (.invokevirtual 207, 3) := by decide +kernel
theorem dX12_goOn_344 : decode cX12_goOn 344 = .ok (.invokestatic 214, 3) := by decide +kernel
theorem dX12_goOn_347 : decode cX12_goOn 347 = .ok (.ifCond .eq 7, 3) := by decide +kernel
theorem dX12_goOn_350 : decode cX12_goOn 350 = .ok (.iconst 1, 1) := by decide +kernel
theorem dX12_goOn_351 : decode cX12_goOn 351 = .ok (.goto 4, 3) := by decide +kernel
theorem dX12_goOn_354 : decode cX12_goOn 354 = .ok (.iconst 4, 1) := by decide +kernel
theorem dX12_goOn_355 : decode cX12_goOn 355 = .ok (.putfield 211, 3) := by decide +kernel
theorem dX12_goOn_358 : decode cX12_goOn 358 = .ok (.goto 20, 3) := by decide +kernel
theorem dX12_goOn_361 : decode cX12_goOn 361 = .ok (.aload_n 0, 1) := by decide +kernel
theorem dX12_goOn_362 : decode cX12_goOn 362 = .ok (.aload_n 0, 1) := by decide +kernel
theorem dX12_goOn_363 : decode cX12_goOn 363 = .ok (.iload_n 1, 1) := by decide +kernel
theorem dX12_goOn_364 : decode cX12_goOn 364 = .ok (.invokevirtual 232, 3) := by decide +kernel
theorem dX12_goOn_367 : decode cX12_goOn 367 = .ok (.ifCond .eq 7, 3) := by decide +kernel
theorem dX12_goOn_370 : decode cX12_goOn 370 = .ok (.iconst 5, 1) := by decide +kernel
theorem dX12_goOn_371 : decode cX12_goOn 371 = .ok (.goto 4, 3) := by decide +kernel
theorem dX12_goOn_374 : decode cX12_goOn 374 = .ok (.iconst 1, 1) := by decide +kernel
theorem dX12_goOn_375 : decode cX12_goOn 375 = .ok (.putfield 211, 3) := by decide +kernel
theorem dX12_goOn_378 : decode cX12_goOn 378 = .ok (.return_, 1) := by decide +kernel
theorem dX12_is_0 : decode cX12_is 0 = .ok (.aload_n 0, 1) := by decide +kernel
theorem dX12_is_1 : decode cX12_is 1 = .ok (.getfield 211, 3) := by decide +kernel
theorem dX12_is_4 : decode cX12_is 4 = .ok (.iconst 5, 1) := by decide +kernel
theorem dX12_is_5 : decode cX12_is 5 = .ok (.if_icmp .ne 19, 3) := by decide +kernel
theorem dX12_is_8 : decode cX12_is 8 = .ok (.aload_n 0, 1) := by decide +kernel
theorem dX12_is_9 : decode cX12_is 9 = .ok (.aload_n 0, 1) := by decide +kernel
theorem dX12_is_10 : decode cX12_is 10 = .ok (.getfield 204, 3) := by decide +kernel
theorem dX12_is_13 : decode cX12_is 13 = .ok (.invokevirtual 207, 3) := by decide +kernel
theorem dX12_is_16 : decode cX12_is 16 = .ok (.iload_n 1, 1) := by decide +kernel
theorem dX12_is_17 : decode cX12_is 17 = .ok (.if_icmp .ne 7, 3) := by decide +kernel
theorem dX12_is_20 : decode cX12_is 20 = .ok (.iconst 1, 1) := by decide +kernel
theorem dX12_is_21 : decode cX12_is 21 = .ok (.goto 4, 3) := by decide +kernel
theorem dX12_is_24 : decode cX12_is 24 = .ok (.iconst 0, 1) := by decide +kernel
theorem dX12_is_25 : decode cX12_is 25 = .ok (.ireturn, 1) := by decide +kernel
theorem dX12_isWord_0 : decode cX12_isWord 0 = .ok (.aload_n 0, 1) := by decide +kernel
theorem dX12_isWord_1 : decode cX12_isWord 1 = .ok (.getfield 211, 3) := by decide +kernel
theorem dX12_isWord_4 : decode cX12_isWord 4 = .ok (.iconst 3, 1) := by decide +kernel
theorem dX12_isWord_5 : decode cX12_isWord 5 = .ok (.if_icmp .ne 16, 3) := by decide +kernel
theorem dX12_isWord_8 : decode cX12_isWord 8 = .ok (.aload_n 0, 1) := by decide +kernel
theorem dX12_isWord_9 : decode cX12_isWord 9 = .ok (.getfield 218, 3) := by decide +kernel
theorem dX12_isWord_12 : decode cX12_isWord 12 = .ok (.lload_n 1, 1) := by decide +kernel
theorem dX12_isWord_13 : decode cX12_isWord 13 = .ok (.lcmp, 1) := by decide +kernel
theorem dX12_isWord_14 : decode cX12_isWord 14 = .ok (.ifCond .ne 7, 3) := by decide +kernel
theorem dX12_isWord_17 : decode cX12_isWord 17 = .ok (.iconst 1, 1) := by decide +kernel
theorem dX12_isWord_18 : decode cX12_isWord 18 = .ok (.goto 4, 3) := by decide +kernel
theorem dX12_isWord_21 : decode cX12_isWord 21 = .ok (.iconst 0, 1) := by decide +kernel
theorem dX12_isWord_22 : decode cX12_isWord 22 = .ok (.ireturn, 1) := by decide +kernel
theorem dX12_misplaced_0 : decode cX12_misplaced 0 = .ok (.aload_n 0, 1) := by decide +kernel
theorem dX12_misplaced_1 : decode cX12_misplaced 1 = .ok (.aload_n 0, 1) := by decide +kernel
theorem dX12_misplaced_2 : decode cX12_misplaced 2 = .ok (.getfield 211, 3) := by decide +kernel
theorem dX12_misplaced_5 : decode cX12_misplaced 5 = .ok (.iconst 1, 1) := by decide +kernel
theorem dX12_misplaced_6 : decode cX12_misplaced 6 = .ok (.if_icmp .ne 7, 3) := by decide +kernel
theorem dX12_misplaced_9 : decode cX12_misplaced 9 = .ok (.iconst 1, 1) := by decide +kernel
theorem dX12_misplaced_10 : decode cX12_misplaced 10 = .ok (.goto 4, 3) := by decide +kernel
theorem dX12_misplaced_13 : decode cX12_misplaced 13 = .ok (.iconst 2, 1) := by decide +kernel
theorem dX12_misplaced_14 : decode cX12_misplaced 14 = .ok (.aload_n 0, 1) := by decide +kernel
theorem dX12_misplaced_15 : decode cX12_misplaced 15 = .ok (.getfield 204, 3) := by decide +kernel
theorem dX12_misplaced_18 : decode cX12_misplaced 18 = .ok (.invokevirtual 235, 3) := by decide +kernel
theorem dX12_misplaced_21 : decode cX12_misplaced 21 = .ok (.return_, 1) := by decide +kernel
theorem dX12_must_0 : decode cX12_must 0 = .ok (.aload_n 0, 1) := by decide +kernel
theorem dX12_must_1 : decode cX12_must 1 = .ok (.invokevirtual 239, 3) := by decide +kernel
theorem dX12_must_4 : decode cX12_must 4 = .ok (.ifCond .ne 4, 3) := by decide +kernel
theorem dX12_must_7 : decode cX12_must 7 = .ok (.return_, 1) := by decide +kernel
theorem dX12_must_8 : decode cX12_must 8 = .ok (.iload_n 1, 1) := by decide +kernel
theorem dX12_must_9 : decode cX12_must 9 = .ok (.ifCond .eq 10, 3) := by decide +kernel
theorem dX12_must_12 : decode cX12_must 12 = .ok (.aload_n 0, 1) := by decide +kernel
theorem dX12_must_13 : decode cX12_must 13 = .ok (.invokevirtual 243, 3) := by decide +kernel
theorem dX12_must_16 : decode cX12_must 16 = .ok (.goto 7, 3) := by decide +kernel
theorem dX12_must_19 : decode cX12_must 19 = .ok (.aload_n 0, 1) := by decide +kernel
theorem dX12_must_20 : decode cX12_must 20 = .ok (.invokevirtual 246, 3) := by decide +kernel
theorem dX12_must_23 : decode cX12_must 23 = .ok (.return_, 1) := by decide +kernel
theorem dX12_numeral_0 : decode cX12_numeral 0 = .ok (.aload_n 0, 1) := by decide +kernel
theorem dX12_numeral_1 : decode cX12_numeral 1 = .ok (.invokevirtual 239, 3) := by decide +kernel
theorem dX12_numeral_4 : decode cX12_numeral 4 = .ok (.ifCond .ne 5, 3) := by decide +kernel
theorem dX12_numeral_7 : decode cX12_numeral 7 = .ok (.iload_n 1, 1) := by decide +kernel
theorem dX12_numeral_8 : decode cX12_numeral 8 = .ok (.ireturn, 1) := by decide +kernel
theorem dX12_numeral_9 : decode cX12_numeral 9 = .ok (.aload_n 0, 1) := by decide +kernel
theorem dX12_numeral_10 : decode cX12_numeral 10 = .ok (.getfield 211, 3) := by decide +kernel
theorem dX12_numeral_13 : decode cX12_numeral 13 = .ok (.iconst 4, 1) := by decide +kernel
theorem dX12_numeral_14 : decode cX12_numeral 14 = .ok (.if_icmp .eq 7, 3) := by decide +kernel
theorem dX12_numeral_17 : decode cX12_numeral 17 = .ok (.aload_n 0, 1) := by decide +kernel
theorem dX12_numeral_18 : decode cX12_numeral 18 = .ok (.invokevirtual 246, 3) := by decide +kernel
theorem dX12_numeral_21 : decode cX12_numeral 21 = .ok (.aload_n 0, 1) := by decide +kernel
theorem dX12_numeral_22 : decode cX12_numeral 22 = .ok (.invokevirtual 239, 3) := by decide +kernel
theorem dX12_numeral_25 : decode cX12_numeral 25 = .ok (.ifCond .eq 28, 3) := by decide +kernel
theorem dX12_numeral_28 : decode cX12_numeral 28 = .ok (.aload_n 0, 1) := by decide +kernel
theorem dX12_numeral_29 : decode cX12_numeral 29 = .ok (.getfield 229, 3) := by decide +kernel
theorem dX12_numeral_32 : decode cX12_numeral 32 = .ok (.iload_n 1, 1) := by decide +kernel
theorem dX12_numeral_33 : decode cX12_numeral 33 = .ok (.if_icmp .lt 11, 3) := by decide +kernel
theorem dX12_numeral_36 : decode cX12_numeral 36 = .ok (.aload_n 0, 1) := by decide +kernel
theorem dX12_numeral_37 : decode cX12_numeral 37 = .ok (.getfield 229, 3) := by decide +kernel
theorem dX12_numeral_40 : decode cX12_numeral 40 = .ok (.iload_n 2, 1) := by decide +kernel
theorem dX12_numeral_41 : decode cX12_numeral 41 = .ok (.if_icmp .le 12, 3) := by decide +kernel
theorem dX12_numeral_44 : decode cX12_numeral 44 = .ok (.aload_n 0, 1) := by decide +kernel
theorem dX12_numeral_45 : decode cX12_numeral 45 = .ok (.iconst 4, 1) := by decide +kernel
theorem dX12_numeral_46 : decode cX12_numeral 46 = .ok (.aload_n 0, 1) := by decide +kernel
theorem dX12_numeral_47 : decode cX12_numeral 47 = .ok (.getfield 204, 3) := by decide +kernel
theorem dX12_numeral_50 : decode cX12_numeral 50 = .ok (.invokevirtual 235, 3) := by decide +kernel
theorem dX12_numeral_53 : decode cX12_numeral 53 = .ok (.aload_n 0, 1) := by decide +kernel
theorem dX12_numeral_54 : decode cX12_numeral 54 = .ok (.getfield 229, 3) := by decide +kernel
theorem dX12_numeral_57 : decode cX12_numeral 57 = .ok (.istore_n 3, 1) := by decide +kernel
theorem dX12_numeral_58 : decode cX12_numeral 58 = .ok (.aload_n 0, 1) := by decide +kernel
theorem dX12_numeral_59 : decode cX12_numeral 59 = .ok (.invokevirtual 239, 3) := by decide +kernel
theorem dX12_numeral_62 : decode cX12_numeral 62 = .ok (.ifCond .eq 7, 3) := by decide +kernel
theorem dX12_numeral_65 : decode cX12_numeral 65 = .ok (.aload_n 0, 1) := by decide +kernel
theorem dX12_numeral_66 : decode cX12_numeral 66 = .ok (.invokevirtual 243, 3) := by decide +kernel
theorem dX12_numeral_69 : decode cX12_numeral 69 = .ok (.aload_n 0, 1) := by decide +kernel
theorem dX12_numeral_70 : decode cX12_numeral 70 = .ok (.invokevirtual 239, 3) := by decide +kernel
theorem dX12_numeral_73 : decode cX12_numeral 73 = .ok (.ifCond .eq 7, 3) := by decide +kernel
theorem dX12_numeral_76 : decode cX12_numeral 76 = .ok (.iload_n 3, 1) := by decide +kernel
theorem dX12_numeral_77 : decode cX12_numeral 77 = .ok (.goto 4, 3) := by decide +kernel
theorem dX12_numeral_80 : decode cX12_numeral 80 = .ok (.iload_n 1, 1) := by decide +kernel
theorem dX12_numeral_81 : decode cX12_numeral 81 = .ok (.ireturn, 1) := by decide +kernel
theorem dX12_after_0 : decode cX12_after 0 = .ok (.aload_n 0, 1) := by decide +kernel
theorem dX12_after_1 : decode cX12_after 1 = .ok (.aload_n 0, 1) := by decide +kernel
theorem dX12_after_2 : decode cX12_after 2 = .ok (.lload_n 1, 1) := by decide +kernel
theorem dX12_after_3 : decode cX12_after 3 = .ok (.invokevirtual 249, 3) := by decide +kernel
theorem dX12_after_6 : decode cX12_after 6 = .ok (.invokevirtual 252, 3) := by decide +kernel
theorem dX12_after_9 : decode cX12_after 9 = .ok (.aload_n 0, 1) := by decide +kernel
theorem dX12_after_10 : decode cX12_after 10 = .ok (.iload_n 3, 1) := by decide +kernel
theorem dX12_after_11 : decode cX12_after 11 = .ok (.iload 4, 2) := by decide +kernel
theorem dX12_after_13 : decode cX12_after 13 = .ok (.invokevirtual 256, 3) := by decide +kernel
theorem dX12_after_16 : decode cX12_after 16 = .ok (.ireturn, 1) := by decide +kernel
theorem dX12_takeTape_0 : decode cX12_takeTape 0 = .ok (.aload_n 0, 1) := by decide +kernel
theorem dX12_takeTape_1 : decode cX12_takeTape 1 = .ok (.iconst 0, 1) := by decide +kernel
theorem dX12_takeTape_2 : decode cX12_takeTape 2 = .ok (.putfield 146, 3) := by decide +kernel
theorem dX12_takeTape_5 : decode cX12_takeTape 5 = .ok (.aload_n 0, 1) := by decide +kernel
theorem dX12_takeTape_6 : decode cX12_takeTape 6 = .ok (.iconst (-1), 1) := by decide +kernel
theorem dX12_takeTape_7 : decode cX12_takeTape 7 = .ok (.putfield 16, 3) := by decide +kernel
theorem dX12_takeTape_10 : decode cX12_takeTape 10 = .ok (.aload_n 0, 1) := by decide +kernel
theorem dX12_takeTape_11 : decode cX12_takeTape 11 = .ok (.iload_n 1, 1) := by decide +kernel
theorem dX12_takeTape_12 : decode cX12_takeTape 12 = .ok (.putfield 197, 3) := by decide +kernel
theorem dX12_takeTape_15 : decode cX12_takeTape 15 = .ok (.aload_n 0, 1) := by decide +kernel
theorem dX12_takeTape_16 : decode cX12_takeTape 16 = .ok (.aload_n 0, 1) := by decide +kernel
theorem dX12_takeTape_17 : decode cX12_takeTape 17 = .ok (.getfield 260, 3) := by decide +kernel
theorem dX12_takeTape_20 : decode cX12_takeTape 20 = .ok (.putfield 143, 3) := by decide +kernel
theorem dX12_takeTape_23 : decode cX12_takeTape 23 = .ok (.iconst 0, 1) := by decide +kernel
theorem dX12_takeTape_24 : decode cX12_takeTape 24 = .ok (.istore_n 2, 1) := by decide +kernel
theorem dX12_takeTape_25 : decode cX12_takeTape 25 = .ok (.iload_n 2, 1) := by decide +kernel
theorem dX12_takeTape_26 : decode cX12_takeTape 26 = .ok (.aload_n 0, 1) := by decide +kernel
theorem dX12_takeTape_27 : decode cX12_takeTape 27 = .ok (.getfield 143, 3) := by decide +kernel
theorem dX12_takeTape_30 : decode cX12_takeTape 30 = .ok (.if_icmp .ge 21, 3) := by decide +kernel
theorem dX12_takeTape_33 : decode cX12_takeTape 33 = .ok (.aload_n 0, 1) := by decide +kernel
theorem dX12_takeTape_34 : decode cX12_takeTape 34 = .ok (.getfield 13, 3) := by decide +kernel
theorem dX12_takeTape_37 : decode cX12_takeTape 37 = .ok (.iload_n 2, 1) := by decide +kernel
theorem dX12_takeTape_38 : decode cX12_takeTape 38 = .ok (.aload_n 0, 1) := by decide +kernel
theorem dX12_takeTape_39 : decode cX12_takeTape 39 = .ok (.getfield 7, 3) := by decide +kernel
theorem dX12_takeTape_42 : decode cX12_takeTape 42 = .ok (.iload_n 2, 1) := by decide +kernel
theorem dX12_takeTape_43 : decode cX12_takeTape 43 = .ok (.baload, 1) := by decide +kernel
theorem dX12_takeTape_44 : decode cX12_takeTape 44 = .ok (.bastore, 1) := by decide +kernel
theorem dX12_takeTape_45 : decode cX12_takeTape 45 = .ok (.iinc 2 1, 3) := by decide +kernel
theorem dX12_takeTape_48 : decode cX12_takeTape 48 = .ok (.goto (-23), 3) := by decide +kernel
theorem dX12_takeTape_51 : decode cX12_takeTape 51 = .ok (.aload_n 0, 1) := by decide +kernel
theorem dX12_takeTape_52 : decode cX12_takeTape 52 = .ok (.iconst 0, 1) := by decide +kernel
theorem dX12_takeTape_53 : decode cX12_takeTape 53 = .ok (.putfield 260, 3) := by decide +kernel
theorem dX12_takeTape_56 : decode cX12_takeTape 56 = .ok (.aload_n 0, 1) := by decide +kernel
theorem dX12_takeTape_57 : decode cX12_takeTape 57 = .ok (.iconst 0, 1) := by decide +kernel
theorem dX12_takeTape_58 : decode cX12_takeTape 58 = .ok (.putfield 201, 3) := by decide +kernel
theorem dX12_takeTape_61 : decode cX12_takeTape 61 = .ok (.return_, 1) := by decide +kernel
theorem dX12_clearBank_0 : decode cX12_clearBank 0 = .ok (.aload_n 0, 1) := by decide +kernel
theorem dX12_clearBank_1 : decode cX12_clearBank 1 = .ok (.getfield 20, 3) := by decide +kernel
theorem dX12_clearBank_4 : decode cX12_clearBank 4 = .ok (.aload_n 0, 1) := by decide +kernel
theorem dX12_clearBank_5 : decode cX12_clearBank 5 = .ok (.getfield 263, 3) := by decide +kernel
theorem dX12_clearBank_8 : decode cX12_clearBank 8 = .ok (.iconst 5, 1) := by decide +kernel
theorem dX12_clearBank_9 : decode cX12_clearBank 9 = .ok (.iastore, 1) := by decide +kernel
theorem dX12_clearBank_10 : decode cX12_clearBank 10 = .ok (.aload_n 0, 1) := by decide +kernel
theorem dX12_clearBank_11 : decode cX12_clearBank 11 = .ok (.getfield 24, 3) := by decide +kernel
theorem dX12_clearBank_14 : decode cX12_clearBank 14 = .ok (.aload_n 0, 1) := by decide +kernel
theorem dX12_clearBank_15 : decode cX12_clearBank 15 = .ok (.getfield 263, 3) := by decide +kernel
theorem dX12_clearBank_18 : decode cX12_clearBank 18 = .ok (.iconst 0, 1) := by decide +kernel
theorem dX12_clearBank_19 : decode cX12_clearBank 19 = .ok (.iastore, 1) := by decide +kernel
theorem dX12_clearBank_20 : decode cX12_clearBank 20 = .ok (.aload_n 0, 1) := by decide +kernel
theorem dX12_clearBank_21 : decode cX12_clearBank 21 = .ok (.getfield 27, 3) := by decide +kernel
theorem dX12_clearBank_24 : decode cX12_clearBank 24 = .ok (.aload_n 0, 1) := by decide +kernel
theorem dX12_clearBank_25 : decode cX12_clearBank 25 = .ok (.getfield 263, 3) := by decide +kernel
theorem dX12_clearBank_28 : decode cX12_clearBank 28 = .ok (.iconst 0, 1) := by decide +kernel
theorem dX12_clearBank_29 : decode cX12_clearBank 29 = .ok (.iastore, 1) := by decide +kernel
theorem dX12_clearBank_30 : decode cX12_clearBank 30 = .ok (.aload_n 0, 1) := by decide +kernel
theorem dX12_clearBank_31 : decode cX12_clearBank 31 = .ok (.getfield 30, 3) := by decide +kernel
theorem dX12_clearBank_34 : decode cX12_clearBank 34 = .ok (.aload_n 0, 1) := by decide +kernel
theorem dX12_clearBank_35 : decode cX12_clearBank 35 = .ok (.getfield 263, 3) := by decide +kernel
theorem dX12_clearBank_38 : decode cX12_clearBank 38 = .ok (.bipush 20, 2) := by decide +kernel
theorem dX12_clearBank_40 : decode cX12_clearBank 40 = .ok (.iastore, 1) := by decide +kernel
theorem dX12_clearBank_41 : decode cX12_clearBank 41 = .ok (.aload_n 0, 1) := by decide +kernel
theorem dX12_clearBank_42 : decode cX12_clearBank 42 = .ok (.getfield 51, 3) := by decide +kernel
theorem dX12_clearBank_45 : decode cX12_clearBank 45 = .ok (.aload_n 0, 1) := by decide +kernel
theorem dX12_clearBank_46 : decode cX12_clearBank 46 = .ok (.getfield 263, 3) := by decide +kernel
theorem dX12_clearBank_49 : decode cX12_clearBank 49 = .ok (.iconst 0, 1) := by decide +kernel
theorem dX12_clearBank_50 : decode cX12_clearBank 50 = .ok (.bastore, 1) := by decide +kernel
theorem dX12_clearBank_51 : decode cX12_clearBank 51 = .ok (.aload_n 0, 1) := by decide +kernel
theorem dX12_clearBank_52 : decode cX12_clearBank 52 = .ok (.getfield 55, 3) := by decide +kernel
theorem dX12_clearBank_55 : decode cX12_clearBank 55 = .ok (.aload_n 0, 1) := by decide +kernel
theorem dX12_clearBank_56 : decode cX12_clearBank 56 = .ok (.getfield 263, 3) := by decide +kernel
theorem dX12_clearBank_59 : decode cX12_clearBank 59 = .ok (.iconst 0, 1) := by decide +kernel
theorem dX12_clearBank_60 : decode cX12_clearBank 60 = .ok (.bastore, 1) := by decide +kernel
theorem dX12_clearBank_61 : decode cX12_clearBank 61 = .ok (.iconst 4, 1) := by decide +kernel
theorem dX12_clearBank_62 : decode cX12_clearBank 62 = .ok (.aload_n 0, 1) := by decide +kernel
theorem dX12_clearBank_63 : decode cX12_clearBank 63 = .ok (.getfield 263, 3) := by decide +kernel
theorem dX12_clearBank_66 : decode cX12_clearBank 66 = .ok (.imul, 1) := by decide +kernel
theorem dX12_clearBank_67 : decode cX12_clearBank 67 = .ok (.istore_n 1, 1) := by decide +kernel
theorem dX12_clearBank_68 : decode cX12_clearBank 68 = .ok (.iload_n 1, 1) := by decide +kernel
theorem dX12_clearBank_69 : decode cX12_clearBank 69 = .ok (.iconst 4, 1) := by decide +kernel
theorem dX12_clearBank_70 : decode cX12_clearBank 70 = .ok (.aload_n 0, 1) := by decide +kernel
theorem dX12_clearBank_71 : decode cX12_clearBank 71 = .ok (.getfield 263, 3) := by decide +kernel
theorem dX12_clearBank_74 : decode cX12_clearBank 74 = .ok (.imul, 1) := by decide +kernel
theorem dX12_clearBank_75 : decode cX12_clearBank 75 = .ok (.iconst 4, 1) := by decide +kernel
theorem dX12_clearBank_76 : decode cX12_clearBank 76 = .ok (.iadd, 1) := by decide +kernel
theorem dX12_clearBank_77 : decode cX12_clearBank 77 = .ok (.if_icmp .ge 30, 3) := by decide +kernel
theorem dX12_clearBank_80 : decode cX12_clearBank 80 = .ok (.aload_n 0, 1) := by decide +kernel
theorem dX12_clearBank_81 : decode cX12_clearBank 81 = .ok (.getfield 45, 3) := by decide +kernel
theorem dX12_clearBank_84 : decode cX12_clearBank 84 = .ok (.iload_n 1, 1) := by decide +kernel
theorem dX12_clearBank_85 : decode cX12_clearBank 85 = .ok (.iconst 0, 1) := by decide +kernel
theorem dX12_clearBank_86 : decode cX12_clearBank 86 = .ok (.iastore, 1) := by decide +kernel
theorem dX12_clearBank_87 : decode cX12_clearBank 87 = .ok (.aload_n 0, 1) := by decide +kernel
theorem dX12_clearBank_88 : decode cX12_clearBank 88 = .ok (.getfield 48, 3) := by decide +kernel
theorem dX12_clearBank_91 : decode cX12_clearBank 91 = .ok (.iload_n 1, 1) := by decide +kernel
theorem dX12_clearBank_92 : decode cX12_clearBank 92 = .ok (.iconst 0, 1) := by decide +kernel
theorem dX12_clearBank_93 : decode cX12_clearBank 93 = .ok (.iastore, 1) := by decide +kernel
theorem dX12_clearBank_94 : decode cX12_clearBank 94 = .ok (.aload_n 0, 1) := by decide +kernel
theorem dX12_clearBank_95 : decode cX12_clearBank 95 = .ok (.getfield 58, 3) := by decide +kernel
theorem dX12_clearBank_98 : decode cX12_clearBank 98 = .ok (.iload_n 1, 1) := by decide +kernel
theorem dX12_clearBank_99 : decode cX12_clearBank 99 = .ok (.iconst 0, 1) := by decide +kernel
theorem dX12_clearBank_100 : decode cX12_clearBank 100 = .ok (.bastore, 1) := by decide +kernel
theorem dX12_clearBank_101 : decode cX12_clearBank 101 = .ok (.iinc 1 1, 3) := by decide +kernel
theorem dX12_clearBank_104 : decode cX12_clearBank 104 = .ok (.goto (-36), 3) := by decide +kernel
theorem dX12_clearBank_107 : decode cX12_clearBank 107 = .ok (.bipush 16, 2) := by decide +kernel
theorem dX12_clearBank_109 : decode cX12_clearBank 109 = .ok (.aload_n 0, 1) := by decide +kernel
theorem dX12_clearBank_110 : decode cX12_clearBank 110 = .ok (.getfield 263, 3) := by decide +kernel
theorem dX12_clearBank_113 : decode cX12_clearBank 113 = .ok (.imul, 1) := by decide +kernel
theorem dX12_clearBank_114 : decode cX12_clearBank 114 = .ok (.istore_n 1, 1) := by decide +kernel
theorem dX12_clearBank_115 : decode cX12_clearBank 115 = .ok (.iload_n 1, 1) := by decide +kernel
theorem dX12_clearBank_116 : decode cX12_clearBank 116 = .ok (.bipush 16, 2) := by decide +kernel
theorem dX12_clearBank_118 : decode cX12_clearBank 118 = .ok (.aload_n 0, 1) := by decide +kernel
theorem dX12_clearBank_119 : decode cX12_clearBank 119 = .ok (.getfield 263, 3) := by decide +kernel
theorem dX12_clearBank_122 : decode cX12_clearBank 122 = .ok (.imul, 1) := by decide +kernel
theorem dX12_clearBank_123 : decode cX12_clearBank 123 = .ok (.bipush 16, 2) := by decide +kernel
theorem dX12_clearBank_125 : decode cX12_clearBank 125 = .ok (.iadd, 1) := by decide +kernel
theorem dX12_clearBank_126 : decode cX12_clearBank 126 = .ok (.if_icmp .ge 16, 3) := by decide +kernel
theorem dX12_clearBank_129 : decode cX12_clearBank 129 = .ok (.aload_n 0, 1) := by decide +kernel
theorem dX12_clearBank_130 : decode cX12_clearBank 130 = .ok (.getfield 42, 3) := by decide +kernel
theorem dX12_clearBank_133 : decode cX12_clearBank 133 = .ok (.iload_n 1, 1) := by decide +kernel
theorem dX12_clearBank_134 : decode cX12_clearBank 134 = .ok (.iconst 0, 1) := by decide +kernel
theorem dX12_clearBank_135 : decode cX12_clearBank 135 = .ok (.iastore, 1) := by decide +kernel
theorem dX12_clearBank_136 : decode cX12_clearBank 136 = .ok (.iinc 1 1, 3) := by decide +kernel
theorem dX12_clearBank_139 : decode cX12_clearBank 139 = .ok (.goto (-24), 3) := by decide +kernel
theorem dX12_clearBank_142 : decode cX12_clearBank 142 = .ok (.return_, 1) := by decide +kernel
theorem dX12_town_0 : decode cX12_town 0 = .ok (.aload_n 0, 1) := by decide +kernel
theorem dX12_town_1 : decode cX12_town 1 = .ok (.iconst 0, 1) := by decide +kernel
theorem dX12_town_2 : decode cX12_town 2 = .ok (.invokevirtual 266, 3) := by decide +kernel
theorem dX12_town_5 : decode cX12_town 5 = .ok (.aload_n 0, 1) := by decide +kernel
theorem dX12_town_6 : decode cX12_town 6 = .ok (.iconst 1, 1) := by decide +kernel
theorem dX12_town_7 : decode cX12_town 7 = .ok (.aload_n 0, 1) := by decide +kernel
theorem dX12_town_8 : decode cX12_town 8 = .ok (.getfield 269, 3) := by decide +kernel
theorem dX12_town_11 : decode cX12_town 11 = .ok (.isub, 1) := by decide +kernel
theorem dX12_town_12 : decode cX12_town 12 = .ok (.putfield 263, 3) := by decide +kernel
theorem dX12_town_15 : decode cX12_town 15 = .ok (.aload_n 0, 1) := by decide +kernel
theorem dX12_town_16 : decode cX12_town 16 = .ok (.invokevirtual 140, 3) := by decide +kernel
theorem dX12_town_19 : decode cX12_town 19 = .ok (.aload_n 0, 1) := by decide +kernel
theorem dX12_town_20 : decode cX12_town 20 = .ok (.invokevirtual 243, 3) := by decide +kernel
theorem dX12_town_23 : decode cX12_town 23 = .ok (.aload_n 0, 1) := by decide +kernel
theorem dX12_town_24 : decode cX12_town 24 = .ok (.invokevirtual 239, 3) := by decide +kernel
theorem dX12_town_27 : decode cX12_town 27 = .ok (.ifCond .eq 17, 3) := by decide +kernel
theorem dX12_town_30 : decode cX12_town 30 = .ok (.aload_n 0, 1) := by decide +kernel
theorem dX12_town_31 : decode cX12_town 31 = .ok (.getfield 211, 3) := by decide +kernel
theorem dX12_town_34 : decode cX12_town 34 = .ok (.ifCond .eq 10, 3) := by decide +kernel
theorem dX12_town_37 : decode cX12_town 37 = .ok (.aload_n 0, 1) := by decide +kernel
theorem dX12_town_38 : decode cX12_town 38 = .ok (.invokevirtual 272, 3) := by decide +kernel
theorem dX12_town_41 : decode cX12_town 41 = .ok (.goto (-18), 3) := by decide +kernel
theorem dX12_town_44 : decode cX12_town 44 = .ok (.aload_n 0, 1) := by decide +kernel
theorem dX12_town_45 : decode cX12_town 45 = .ok (.invokevirtual 239, 3) := by decide +kernel
theorem dX12_town_48 : decode cX12_town 48 = .ok (.ifCond .ne 5, 3) := by decide +kernel
theorem dX12_town_51 : decode cX12_town 51 = .ok (.iconst (-1), 1) := by decide +kernel
theorem dX12_town_52 : decode cX12_town 52 = .ok (.ireturn, 1) := by decide +kernel
theorem dX12_town_53 : decode cX12_town 53 = .ok (.aload_n 0, 1) := by decide +kernel
theorem dX12_town_54 : decode cX12_town 54 = .ok (.aload_n 0, 1) := by decide +kernel
theorem dX12_town_55 : decode cX12_town 55 = .ok (.getfield 263, 3) := by decide +kernel
theorem dX12_town_58 : decode cX12_town 58 = .ok (.putfield 269, 3) := by decide +kernel
theorem dX12_town_61 : decode cX12_town 61 = .ok (.aload_n 0, 1) := by decide +kernel
theorem dX12_town_62 : decode cX12_town 62 = .ok (.iconst 0, 1) := by decide +kernel
theorem dX12_town_63 : decode cX12_town 63 = .ok (.putfield 275, 3) := by decide +kernel
theorem dX12_town_66 : decode cX12_town 66 = .ok (.aload_n 0, 1) := by decide +kernel
theorem dX12_town_67 : decode cX12_town 67 = .ok (.iconst 0, 1) := by decide +kernel
theorem dX12_town_68 : decode cX12_town 68 = .ok (.putfield 278, 3) := by decide +kernel
theorem dX12_town_71 : decode cX12_town 71 = .ok (.aload_n 0, 1) := by decide +kernel
theorem dX12_town_72 : decode cX12_town 72 = .ok (.iconst 0, 1) := by decide +kernel
theorem dX12_town_73 : decode cX12_town 73 = .ok (.putfield 281, 3) := by decide +kernel
theorem dX12_town_76 : decode cX12_town 76 = .ok (.aload_n 0, 1) := by decide +kernel
theorem dX12_town_77 : decode cX12_town 77 = .ok (.iconst 0, 1) := by decide +kernel
theorem dX12_town_78 : decode cX12_town 78 = .ok (.putfield 284, 3) := by decide +kernel
theorem dX12_town_81 : decode cX12_town 81 = .ok (.aload_n 0, 1) := by decide +kernel
theorem dX12_town_82 : decode cX12_town 82 = .ok (.iconst 0, 1) := by decide +kernel
theorem dX12_town_83 : decode cX12_town 83 = .ok (.putfield 287, 3) := by decide +kernel
theorem dX12_town_86 : decode cX12_town 86 = .ok (.iconst 0, 1) := by decide +kernel
theorem dX12_town_87 : decode cX12_town 87 = .ok (.istore_n 1, 1) := by decide +kernel
theorem dX12_town_88 : decode cX12_town 88 = .ok (.iload_n 1, 1) := by decide +kernel
theorem dX12_town_89 : decode cX12_town 89 = .ok (.iconst 3, 1) := by decide +kernel
theorem dX12_town_90 : decode cX12_town 90 = .ok (.if_icmp .ge 16, 3) := by decide +kernel
theorem dX12_town_93 : decode cX12_town 93 = .ok (.aload_n 0, 1) := by decide +kernel
theorem dX12_town_94 : decode cX12_town 94 = .ok (.getfield 116, 3) := by decide +kernel
theorem dX12_town_97 : decode cX12_town 97 = .ok (.iload_n 1, 1) := by decide +kernel
theorem dX12_town_98 : decode cX12_town 98 = .ok (.iconst (-1), 1) := by decide +kernel
theorem dX12_town_99 : decode cX12_town 99 = .ok (.iastore, 1) := by decide +kernel
theorem dX12_town_100 : decode cX12_town 100 = .ok (.iinc 1 1, 3) := by decide +kernel
theorem dX12_town_103 : decode cX12_town 103 = .ok (.goto (-15), 3) := by decide +kernel
theorem dX12_town_106 : decode cX12_town 106 = .ok (.aload_n 0, 1) := by decide +kernel
theorem dX12_town_107 : decode cX12_town 107 = .ok (.getfield 24, 3) := by decide +kernel
theorem dX12_town_110 : decode cX12_town 110 = .ok (.aload_n 0, 1) := by decide +kernel
theorem dX12_town_111 : decode cX12_town 111 = .ok (.getfield 269, 3) := by decide +kernel
theorem dX12_town_114 : decode cX12_town 114 = .ok (.iaload, 1) := by decide +kernel
theorem dX12_town_115 : decode cX12_town 115 = .ok (.ireturn, 1) := by decide +kernel
theorem dX12_isFull_0 : decode cX12_isFull 0 = .ok (.aload_n 0, 1) := by decide +kernel
theorem dX12_isFull_1 : decode cX12_isFull 1 = .ok (.ldc2_w 149, 3) := by decide +kernel
theorem dX12_isFull_4 : decode cX12_isFull 4 = .ok (.invokevirtual 249, 3) := by decide +kernel
theorem dX12_isFull_7 : decode cX12_isFull 7 = .ok (.ifCond .eq 13, 3) := by decide +kernel
theorem dX12_isFull_10 : decode cX12_isFull 10 = .ok (.aload_n 0, 1) := by decide +kernel
theorem dX12_isFull_11 : decode cX12_isFull 11 = .ok (.getfield 51, 3) := by decide +kernel
theorem dX12_isFull_14 : decode cX12_isFull 14 = .ok (.aload_n 0, 1) := by decide +kernel
theorem dX12_isFull_15 : decode cX12_isFull 15 = .ok (.getfield 263, 3) := by decide +kernel
theorem dX12_isFull_18 : decode cX12_isFull 18 = .ok (.baload, 1) := by decide +kernel
theorem dX12_isFull_19 : decode cX12_isFull 19 = .ok (.ireturn, 1) := by decide +kernel
theorem dX12_isFull_20 : decode cX12_isFull 20 = .ok (.aload_n 0, 1) := by decide +kernel
theorem dX12_isFull_21 : decode cX12_isFull 21 = .ok (.ldc2_w 151, 3) := by decide +kernel
theorem dX12_isFull_24 : decode cX12_isFull 24 = .ok (.invokevirtual 249, 3) := by decide +kernel
theorem dX12_isFull_27 : decode cX12_isFull 27 = .ok (.ifCond .eq 23, 3) := by decide +kernel
theorem dX12_isFull_30 : decode cX12_isFull 30 = .ok (.aload_n 0, 1) := by decide +kernel
theorem dX12_isFull_31 : decode cX12_isFull 31 = .ok (.getfield 24, 3) := by decide +kernel
theorem dX12_isFull_34 : decode cX12_isFull 34 = .ok (.aload_n 0, 1) := by decide +kernel
theorem dX12_isFull_35 : decode cX12_isFull 35 = .ok (.getfield 263, 3) := by decide +kernel
theorem dX12_isFull_38 : decode cX12_isFull 38 = .ok (.iaload, 1) := by decide +kernel
theorem dX12_isFull_39 : decode cX12_isFull 39 = .ok (.bipush 16, 2) := by decide +kernel
theorem dX12_isFull_41 : decode cX12_isFull 41 = .ok (.if_icmp .ne 7, 3) := by decide +kernel
theorem dX12_isFull_44 : decode cX12_isFull 44 = .ok (.iconst 1, 1) := by decide +kernel
theorem dX12_isFull_45 : decode cX12_isFull 45 = .ok (.goto 4, 3) := by decide +kernel
theorem dX12_isFull_48 : decode cX12_isFull 48 = .ok (.iconst 0, 1) := by decide +kernel
theorem dX12_isFull_49 : decode cX12_isFull 49 = .ok (.ireturn, 1) := by decide +kernel
theorem dX12_isFull_50 : decode cX12_isFull 50 = .ok (.aload_n 0, 1) := by decide +kernel
theorem dX12_isFull_51 : decode cX12_isFull 51 = .ok (.ldc2_w 159, 3) := by decide +kernel
theorem dX12_isFull_54 : decode cX12_isFull 54 = .ok (.invokevirtual 249, 3) := by decide +kernel
theorem dX12_isFull_57 : decode cX12_isFull 57 = .ok (.ifCond .eq 23, 3) := by decide +kernel
theorem dX12_isFull_60 : decode cX12_isFull 60 = .ok (.aload_n 0, 1) := by decide +kernel
theorem dX12_isFull_61 : decode cX12_isFull 61 = .ok (.getfield 27, 3) := by decide +kernel
theorem dX12_isFull_64 : decode cX12_isFull 64 = .ok (.aload_n 0, 1) := by decide +kernel
theorem dX12_isFull_65 : decode cX12_isFull 65 = .ok (.getfield 263, 3) := by decide +kernel
theorem dX12_isFull_68 : decode cX12_isFull 68 = .ok (.iaload, 1) := by decide +kernel
theorem dX12_isFull_69 : decode cX12_isFull 69 = .ok (.bipush 20, 2) := by decide +kernel
theorem dX12_isFull_71 : decode cX12_isFull 71 = .ok (.if_icmp .ne 7, 3) := by decide +kernel
theorem dX12_isFull_74 : decode cX12_isFull 74 = .ok (.iconst 1, 1) := by decide +kernel
theorem dX12_isFull_75 : decode cX12_isFull 75 = .ok (.goto 4, 3) := by decide +kernel
theorem dX12_isFull_78 : decode cX12_isFull 78 = .ok (.iconst 0, 1) := by decide +kernel
theorem dX12_isFull_79 : decode cX12_isFull 79 = .ok (.ireturn, 1) := by decide +kernel
theorem dX12_isFull_80 : decode cX12_isFull 80 = .ok (.aload_n 0, 1) := by decide +kernel
theorem dX12_isFull_81 : decode cX12_isFull 81 = .ok (.ldc2_w 167, 3) := by decide +kernel
theorem dX12_isFull_84 : decode cX12_isFull 84 = .ok (.invokevirtual 249, 3) := by decide +kernel
theorem dX12_isFull_87 : decode cX12_isFull 87 = .ok (.ifCond .eq 15, 3) := by decide +kernel
theorem dX12_isFull_90 : decode cX12_isFull 90 = .ok (.aload_n 0, 1) := by decide +kernel
theorem dX12_isFull_91 : decode cX12_isFull 91 = .ok (.getfield 55, 3) := by decide +kernel
theorem dX12_isFull_94 : decode cX12_isFull 94 = .ok (.aload_n 0, 1) := by decide +kernel
theorem dX12_isFull_95 : decode cX12_isFull 95 = .ok (.getfield 263, 3) := by decide +kernel
theorem dX12_isFull_98 : decode cX12_isFull 98 = .ok (.baload, 1) := by decide +kernel
theorem dX12_isFull_99 : decode cX12_isFull 99 = .ok (.goto 18, 3) := by decide +kernel
theorem dX12_isFull_102 : decode cX12_isFull 102 = .ok (.aload_n 0, 1) := by decide +kernel
theorem dX12_isFull_103 : decode cX12_isFull 103 = .ok (.ldc2_w 161, 3) := by decide +kernel
theorem dX12_isFull_106 : decode cX12_isFull 106 = .ok (.invokevirtual 249, 3) := by decide +kernel
theorem dX12_isFull_109 : decode cX12_isFull 109 = .ok (.ifCond .ne 7, 3) := by decide +kernel
theorem dX12_isFull_112 : decode cX12_isFull 112 = .ok (.iconst 1, 1) := by decide +kernel
theorem dX12_isFull_113 : decode cX12_isFull 113 = .ok (.goto 4, 3) := by decide +kernel
theorem dX12_isFull_116 : decode cX12_isFull 116 = .ok (.iconst 0, 1) := by decide +kernel
theorem dX12_isFull_117 : decode cX12_isFull 117 = .ok (.ireturn, 1) := by decide +kernel
theorem dX12_readLine_0 : decode cX12_readLine 0 = .ok (.aload_n 0, 1) := by decide +kernel
theorem dX12_readLine_1 : decode cX12_readLine 1 = .ok (.getfield 218, 3) := by decide +kernel
theorem dX12_readLine_4 : decode cX12_readLine 4 = .ok (.lstore_n 1, 1) := by decide +kernel
theorem dX12_readLine_5 : decode cX12_readLine 5 = .ok (.aload_n 0, 1) := by decide +kernel
theorem dX12_readLine_6 : decode cX12_readLine 6 = .ok (.getfield 211, 3) := by decide +kernel
theorem dX12_readLine_9 : decode cX12_readLine 9 = .ok (.iconst 3, 1) := by decide +kernel
theorem dX12_readLine_10 : decode cX12_readLine 10 = .ok (.if_icmp .ne 10, 3) := by decide +kernel
theorem dX12_readLine_13 : decode cX12_readLine 13 = .ok (.aload_n 0, 1) := by decide +kernel
theorem dX12_readLine_14 : decode cX12_readLine 14 = .ok (.invokevirtual 290, 3) := by decide +kernel
theorem dX12_readLine_17 : decode cX12_readLine 17 = .ok (.ifCond .eq 7, 3) := by decide +kernel
theorem dX12_readLine_20 : decode cX12_readLine 20 = .ok (.aload_n 0, 1) := by decide +kernel
theorem dX12_readLine_21 : decode cX12_readLine 21 = .ok (.invokevirtual 246, 3) := by decide +kernel
theorem dX12_readLine_24 : decode cX12_readLine 24 = .ok (.aload_n 0, 1) := by decide +kernel
theorem dX12_readLine_25 : decode cX12_readLine 25 = .ok (.invokevirtual 239, 3) := by decide +kernel
theorem dX12_readLine_28 : decode cX12_readLine 28 = .ok (.ifCond .ne 4, 3) := by decide +kernel
theorem dX12_readLine_31 : decode cX12_readLine 31 = .ok (.return_, 1) := by decide +kernel
theorem dX12_readLine_32 : decode cX12_readLine 32 = .ok (.aload_n 0, 1) := by decide +kernel
theorem dX12_readLine_33 : decode cX12_readLine 33 = .ok (.invokevirtual 243, 3) := by decide +kernel
theorem dX12_readLine_36 : decode cX12_readLine 36 = .ok (.lload_n 1, 1) := by decide +kernel
theorem dX12_readLine_37 : decode cX12_readLine 37 = .ok (.ldc2_w 149, 3) := by decide +kernel
theorem dX12_readLine_40 : decode cX12_readLine 40 = .ok (.lcmp, 1) := by decide +kernel
theorem dX12_readLine_41 : decode cX12_readLine 41 = .ok (.ifCond .ne 19, 3) := by decide +kernel
theorem dX12_readLine_44 : decode cX12_readLine 44 = .ok (.aload_n 0, 1) := by decide +kernel
theorem dX12_readLine_45 : decode cX12_readLine 45 = .ok (.getfield 20, 3) := by decide +kernel
theorem dX12_readLine_48 : decode cX12_readLine 48 = .ok (.aload_n 0, 1) := by decide +kernel
theorem dX12_readLine_49 : decode cX12_readLine 49 = .ok (.getfield 263, 3) := by decide +kernel
theorem dX12_readLine_52 : decode cX12_readLine 52 = .ok (.aload_n 0, 1) := by decide +kernel
theorem dX12_readLine_53 : decode cX12_readLine 53 = .ok (.iconst 3, 1) := by decide +kernel
theorem dX12_readLine_54 : decode cX12_readLine 54 = .ok (.bipush 8, 2) := by decide +kernel
theorem dX12_readLine_56 : decode cX12_readLine 56 = .ok (.invokevirtual 256, 3) := by decide +kernel
theorem dX12_readLine_59 : decode cX12_readLine 59 = .ok (.iastore, 1) := by decide +kernel
theorem dX12_readLine_60 : decode cX12_readLine 60 = .ok (.lload_n 1, 1) := by decide +kernel
theorem dX12_readLine_61 : decode cX12_readLine 61 = .ok (.ldc2_w 149, 3) := by decide +kernel
theorem dX12_readLine_64 : decode cX12_readLine 64 = .ok (.lcmp, 1) := by decide +kernel
theorem dX12_readLine_65 : decode cX12_readLine 65 = .ok (.ifCond .eq 11, 3) := by decide +kernel
theorem dX12_readLine_68 : decode cX12_readLine 68 = .ok (.lload_n 1, 1) := by decide +kernel
theorem dX12_readLine_69 : decode cX12_readLine 69 = .ok (.ldc2_w 151, 3) := by decide +kernel
theorem dX12_readLine_72 : decode cX12_readLine 72 = .ok (.lcmp, 1) := by decide +kernel
theorem dX12_readLine_73 : decode cX12_readLine 73 = .ok (.ifCond .ne 13, 3) := by decide +kernel
theorem dX12_readLine_76 : decode cX12_readLine 76 = .ok (.aload_n 0, 1) := by decide +kernel
theorem dX12_readLine_77 : decode cX12_readLine 77 = .ok (.getfield 51, 3) := by decide +kernel
theorem dX12_readLine_80 : decode cX12_readLine 80 = .ok (.aload_n 0, 1) := by decide +kernel
theorem dX12_readLine_81 : decode cX12_readLine 81 = .ok (.getfield 263, 3) := by decide +kernel
theorem dX12_readLine_84 : decode cX12_readLine 84 = .ok (.iconst 1, 1) := by decide +kernel
theorem dX12_readLine_85 : decode cX12_readLine 85 = .ok (.bastore, 1) := by decide +kernel
theorem dX12_readLine_86 : decode cX12_readLine 86 = .ok (.lload_n 1, 1) := by decide +kernel
theorem dX12_readLine_87 : decode cX12_readLine 87 = .ok (.ldc2_w 151, 3) := by decide +kernel
theorem dX12_readLine_90 : decode cX12_readLine 90 = .ok (.lcmp, 1) := by decide +kernel
theorem dX12_readLine_91 : decode cX12_readLine 91 = .ok (.ifCond .ne 7, 3) := by decide +kernel
theorem dX12_readLine_94 : decode cX12_readLine 94 = .ok (.aload_n 0, 1) := by decide +kernel
theorem dX12_readLine_95 : decode cX12_readLine 95 = .ok (.invokevirtual 293, 3) := by decide +kernel
theorem dX12_readLine_98 : decode cX12_readLine 98 = .ok (.lload_n 1, 1) := by decide +kernel
theorem dX12_readLine_99 : decode cX12_readLine 99 = .ok (.ldc2_w 159, 3) := by decide +kernel
theorem dX12_readLine_102 : decode cX12_readLine 102 = .ok (.lcmp, 1) := by decide +kernel
theorem dX12_readLine_103 : decode cX12_readLine 103 = .ok (.ifCond .ne 7, 3) := by decide +kernel
theorem dX12_readLine_106 : decode cX12_readLine 106 = .ok (.aload_n 0, 1) := by decide +kernel
theorem dX12_readLine_107 : decode cX12_readLine 107 = .ok (.invokevirtual 296, 3) := by decide +kernel
theorem dX12_readLine_110 : decode cX12_readLine 110 = .ok (.lload_n 1, 1) := by decide +kernel
theorem dX12_readLine_111 : decode cX12_readLine 111 = .ok (.ldc2_w 161, 3) := by decide +kernel
theorem dX12_readLine_114 : decode cX12_readLine 114 = .ok (.lcmp, 1) := by decide +kernel
theorem dX12_readLine_115 : decode cX12_readLine 115 = .ok (.ifCond .ne 7, 3) := by decide +kernel
theorem dX12_readLine_118 : decode cX12_readLine 118 = .ok (.aload_n 0, 1) := by decide +kernel
theorem dX12_readLine_119 : decode cX12_readLine 119 = .ok (.invokevirtual 299, 3) := by decide +kernel
theorem dX12_readLine_122 : decode cX12_readLine 122 = .ok (.lload_n 1, 1) := by decide +kernel
theorem dX12_readLine_123 : decode cX12_readLine 123 = .ok (.ldc2_w 167, 3) := by decide +kernel
theorem dX12_readLine_126 : decode cX12_readLine 126 = .ok (.lcmp, 1) := by decide +kernel
theorem dX12_readLine_127 : decode cX12_readLine 127 = .ok (.ifCond .ne 20, 3) := by decide +kernel
theorem dX12_readLine_130 : decode cX12_readLine 130 = .ok (.aload_n 0, 1) := by decide +kernel
theorem dX12_readLine_131 : decode cX12_readLine 131 = .ok (.getfield 30, 3) := by decide +kernel
theorem dX12_readLine_134 : decode cX12_readLine 134 = .ok (.aload_n 0, 1) := by decide +kernel
theorem dX12_readLine_135 : decode cX12_readLine 135 = .ok (.getfield 263, 3) := by decide +kernel
theorem dX12_readLine_138 : decode cX12_readLine 138 = .ok (.aload_n 0, 1) := by decide +kernel
theorem dX12_readLine_139 : decode cX12_readLine 139 = .ok (.iconst 0, 1) := by decide +kernel
theorem dX12_readLine_140 : decode cX12_readLine 140 = .ok (.sipush 800, 3) := by decide +kernel
theorem dX12_readLine_143 : decode cX12_readLine 143 = .ok (.invokevirtual 256, 3) := by decide +kernel
theorem dX12_readLine_146 : decode cX12_readLine 146 = .ok (.iastore, 1) := by decide +kernel
theorem dX12_readLine_147 : decode cX12_readLine 147 = .ok (.aload_n 0, 1) := by decide +kernel
theorem dX12_readLine_148 : decode cX12_readLine 148 = .ok (.getfield 55, 3) := by decide +kernel
theorem dX12_readLine_151 : decode cX12_readLine 151 = .ok (.aload_n 0, 1) := by decide +kernel
theorem dX12_readLine_152 : decode cX12_readLine 152 = .ok (.getfield 263, 3) := by decide +kernel
theorem dX12_readLine_155 : decode cX12_readLine 155 = .ok (.aload_n 0, 1) := by decide +kernel
theorem dX12_readLine_156 : decode cX12_readLine 156 = .ok (.getfield 55, 3) := by decide +kernel
theorem dX12_readLine_159 : decode cX12_readLine 159 = .ok (.aload_n 0, 1) := by decide +kernel
theorem dX12_readLine_160 : decode cX12_readLine 160 = .ok (.getfield 263, 3) := by decide +kernel
theorem dX12_readLine_163 : decode cX12_readLine 163 = .ok (.baload, 1) := by decide +kernel
theorem dX12_readLine_164 : decode cX12_readLine 164 = .ok (.ifCond .ne 11, 3) := by decide +kernel
theorem dX12_readLine_167 : decode cX12_readLine 167 = .ok (.lload_n 1, 1) := by decide +kernel
theorem dX12_readLine_168 : decode cX12_readLine 168 = .ok (.ldc2_w 167, 3) := by decide +kernel
theorem dX12_readLine_171 : decode cX12_readLine 171 = .ok (.lcmp, 1) := by decide +kernel
theorem dX12_readLine_172 : decode cX12_readLine 172 = .ok (.ifCond .ne 7, 3) := by decide +kernel
theorem dX12_readLine_175 : decode cX12_readLine 175 = .ok (.iconst 1, 1) := by decide +kernel
theorem dX12_readLine_176 : decode cX12_readLine 176 = .ok (.goto 4, 3) := by decide +kernel
theorem dX12_readLine_179 : decode cX12_readLine 179 = .ok (.iconst 0, 1) := by decide +kernel
theorem dX12_readLine_180 : decode cX12_readLine 180 = .ok (.bastore, 1) := by decide +kernel
theorem dX12_readLine_181 : decode cX12_readLine 181 = .ok (.aload_n 0, 1) := by decide +kernel
theorem dX12_readLine_182 : decode cX12_readLine 182 = .ok (.aload_n 0, 1) := by decide +kernel
theorem dX12_readLine_183 : decode cX12_readLine 183 = .ok (.bipush 59, 2) := by decide +kernel
theorem dX12_readLine_185 : decode cX12_readLine 185 = .ok (.invokevirtual 302, 3) := by decide +kernel
theorem dX12_readLine_188 : decode cX12_readLine 188 = .ok (.invokevirtual 252, 3) := by decide +kernel
theorem dX12_readLine_191 : decode cX12_readLine 191 = .ok (.return_, 1) := by decide +kernel
theorem dX12_faceHere_0 : decode cX12_faceHere 0 = .ok (.iconst 0, 1) := by decide +kernel
theorem dX12_faceHere_1 : decode cX12_faceHere 1 = .ok (.istore_n 1, 1) := by decide +kernel
theorem dX12_faceHere_2 : decode cX12_faceHere 2 = .ok (.iload_n 1, 1) := by decide +kernel
theorem dX12_faceHere_3 : decode cX12_faceHere 3 = .ok (.aload_n 0, 1) := by decide +kernel
theorem dX12_faceHere_4 : decode cX12_faceHere 4 = .ok (.getfield 24, 3) := by decide +kernel
theorem dX12_faceHere_7 : decode cX12_faceHere 7 = .ok (.aload_n 0, 1) := by decide +kernel
theorem dX12_faceHere_8 : decode cX12_faceHere 8 = .ok (.getfield 263, 3) := by decide +kernel
theorem dX12_faceHere_11 : decode cX12_faceHere 11 = .ok (.iaload, 1) := by decide +kernel
theorem dX12_faceHere_12 : decode cX12_faceHere 12 = .ok (.if_icmp .ge 41, 3) := by decide +kernel
theorem dX12_faceHere_15 : decode cX12_faceHere 15 = .ok (.aload_n 0, 1) := by decide +kernel
theorem dX12_faceHere_16 : decode cX12_faceHere 16 = .ok (.getfield 211, 3) := by decide +kernel
theorem dX12_faceHere_19 : decode cX12_faceHere 19 = .ok (.iconst 2, 1) := by decide +kernel
theorem dX12_faceHere_20 : decode cX12_faceHere 20 = .ok (.if_icmp .ne 27, 3) := by decide +kernel
theorem dX12_faceHere_23 : decode cX12_faceHere 23 = .ok (.aload_n 0, 1) := by decide +kernel
theorem dX12_faceHere_24 : decode cX12_faceHere 24 = .ok (.getfield 61, 3) := by decide +kernel
theorem dX12_faceHere_27 : decode cX12_faceHere 27 = .ok (.bipush 16, 2) := by decide +kernel
theorem dX12_faceHere_29 : decode cX12_faceHere 29 = .ok (.aload_n 0, 1) := by decide +kernel
theorem dX12_faceHere_30 : decode cX12_faceHere 30 = .ok (.getfield 263, 3) := by decide +kernel
theorem dX12_faceHere_33 : decode cX12_faceHere 33 = .ok (.imul, 1) := by decide +kernel
theorem dX12_faceHere_34 : decode cX12_faceHere 34 = .ok (.iload_n 1, 1) := by decide +kernel
theorem dX12_faceHere_35 : decode cX12_faceHere 35 = .ok (.iadd, 1) := by decide +kernel
theorem dX12_faceHere_36 : decode cX12_faceHere 36 = .ok (.laload, 1) := by decide +kernel
theorem dX12_faceHere_37 : decode cX12_faceHere 37 = .ok (.aload_n 0, 1) := by decide +kernel
theorem dX12_faceHere_38 : decode cX12_faceHere 38 = .ok (.getfield 218, 3) := by decide +kernel
theorem dX12_faceHere_41 : decode cX12_faceHere 41 = .ok (.lcmp, 1) := by decide +kernel
theorem dX12_faceHere_42 : decode cX12_faceHere 42 = .ok (.ifCond .ne 5, 3) := by decide +kernel
theorem dX12_faceHere_45 : decode cX12_faceHere 45 = .ok (.iload_n 1, 1) := by decide +kernel
theorem dX12_faceHere_46 : decode cX12_faceHere 46 = .ok (.ireturn, 1) := by decide +kernel
theorem dX12_faceHere_47 : decode cX12_faceHere 47 = .ok (.iinc 1 1, 3) := by decide +kernel
theorem dX12_faceHere_50 : decode cX12_faceHere 50 = .ok (.goto (-48), 3) := by decide +kernel
theorem dX12_faceHere_53 : decode cX12_faceHere 53 = .ok (.iconst (-1), 1) := by decide +kernel
theorem dX12_faceHere_54 : decode cX12_faceHere 54 = .ok (.ireturn, 1) := by decide +kernel
theorem dX12_readFace_0 : decode cX12_readFace 0 = .ok (.bipush 16, 2) := by decide +kernel
theorem dX12_readFace_2 : decode cX12_readFace 2 = .ok (.aload_n 0, 1) := by decide +kernel
theorem dX12_readFace_3 : decode cX12_readFace 3 = .ok (.getfield 263, 3) := by decide +kernel
theorem dX12_readFace_6 : decode cX12_readFace 6 = .ok (.imul, 1) := by decide +kernel
theorem dX12_readFace_7 : decode cX12_readFace 7 = .ok (.aload_n 0, 1) := by decide +kernel
theorem dX12_readFace_8 : decode cX12_readFace 8 = .ok (.getfield 24, 3) := by decide +kernel
theorem dX12_readFace_11 : decode cX12_readFace 11 = .ok (.aload_n 0, 1) := by decide +kernel
theorem dX12_readFace_12 : decode cX12_readFace 12 = .ok (.getfield 263, 3) := by decide +kernel
theorem dX12_readFace_15 : decode cX12_readFace 15 = .ok (.iaload, 1) := by decide +kernel
theorem dX12_readFace_16 : decode cX12_readFace 16 = .ok (.iadd, 1) := by decide +kernel
theorem dX12_readFace_17 : decode cX12_readFace 17 = .ok (.istore_n 1, 1) := by decide +kernel
theorem dX12_readFace_18 : decode cX12_readFace 18 = .ok (.aload_n 0, 1) := by decide +kernel
theorem dX12_readFace_19 : decode cX12_readFace 19 = .ok (.getfield 211, 3) := by decide +kernel
theorem dX12_readFace_22 : decode cX12_readFace 22 = .ok (.iconst 2, 1) := by decide +kernel
theorem dX12_readFace_23 : decode cX12_readFace 23 = .ok (.if_icmp .eq 10, 3) := by decide +kernel
theorem dX12_readFace_26 : decode cX12_readFace 26 = .ok (.aload_n 0, 1) := by decide +kernel
theorem dX12_readFace_27 : decode cX12_readFace 27 = .ok (.invokevirtual 246, 3) := by decide +kernel
theorem dX12_readFace_30 : decode cX12_readFace 30 = .ok (.goto 19, 3) := by decide +kernel
theorem dX12_readFace_33 : decode cX12_readFace 33 = .ok (.aload_n 0, 1) := by decide +kernel
theorem dX12_readFace_34 : decode cX12_readFace 34 = .ok (.invokevirtual 305, 3) := by decide +kernel
theorem dX12_readFace_37 : decode cX12_readFace 37 = .ok (.ifCond .lt 12, 3) := by decide +kernel
theorem dX12_readFace_40 : decode cX12_readFace 40 = .ok (.aload_n 0, 1) := by decide +kernel
theorem dX12_readFace_41 : decode cX12_readFace 41 = .ok (.iconst 3, 1) := by decide +kernel
theorem dX12_readFace_42 : decode cX12_readFace 42 = .ok (.aload_n 0, 1) := by decide +kernel
theorem dX12_readFace_43 : decode cX12_readFace 43 = .ok (.getfield 204, 3) := by decide +kernel
theorem dX12_readFace_46 : decode cX12_readFace 46 = .ok (.invokevirtual 235, 3) := by decide +kernel
theorem dX12_readFace_49 : decode cX12_readFace 49 = .ok (.aload_n 0, 1) := by decide +kernel
theorem dX12_readFace_50 : decode cX12_readFace 50 = .ok (.getfield 61, 3) := by decide +kernel
theorem dX12_readFace_53 : decode cX12_readFace 53 = .ok (.iload_n 1, 1) := by decide +kernel
theorem dX12_readFace_54 : decode cX12_readFace 54 = .ok (.aload_n 0, 1) := by decide +kernel
theorem dX12_readFace_55 : decode cX12_readFace 55 = .ok (.getfield 218, 3) := by decide +kernel
theorem dX12_readFace_58 : decode cX12_readFace 58 = .ok (.lastore, 1) := by decide +kernel
theorem dX12_readFace_59 : decode cX12_readFace 59 = .ok (.aload_n 0, 1) := by decide +kernel
theorem dX12_readFace_60 : decode cX12_readFace 60 = .ok (.aload_n 0, 1) := by decide +kernel
theorem dX12_readFace_61 : decode cX12_readFace 61 = .ok (.getfield 211, 3) := by decide +kernel
theorem dX12_readFace_64 : decode cX12_readFace 64 = .ok (.iconst 2, 1) := by decide +kernel
theorem dX12_readFace_65 : decode cX12_readFace 65 = .ok (.if_icmp .ne 7, 3) := by decide +kernel
theorem dX12_readFace_68 : decode cX12_readFace 68 = .ok (.iconst 1, 1) := by decide +kernel
theorem dX12_readFace_69 : decode cX12_readFace 69 = .ok (.goto 4, 3) := by decide +kernel
theorem dX12_readFace_72 : decode cX12_readFace 72 = .ok (.iconst 0, 1) := by decide +kernel
theorem dX12_readFace_73 : decode cX12_readFace 73 = .ok (.invokevirtual 252, 3) := by decide +kernel
theorem dX12_readFace_76 : decode cX12_readFace 76 = .ok (.aload_n 0, 1) := by decide +kernel
theorem dX12_readFace_77 : decode cX12_readFace 77 = .ok (.getfield 33, 3) := by decide +kernel
theorem dX12_readFace_80 : decode cX12_readFace 80 = .ok (.iload_n 1, 1) := by decide +kernel
theorem dX12_readFace_81 : decode cX12_readFace 81 = .ok (.aload_n 0, 1) := by decide +kernel
theorem dX12_readFace_82 : decode cX12_readFace 82 = .ok (.ldc2_w 153, 3) := by decide +kernel
theorem dX12_readFace_85 : decode cX12_readFace 85 = .ok (.iconst 0, 1) := by decide +kernel
theorem dX12_readFace_86 : decode cX12_readFace 86 = .ok (.iconst 3, 1) := by decide +kernel
theorem dX12_readFace_87 : decode cX12_readFace 87 = .ok (.invokevirtual 309, 3) := by decide +kernel
theorem dX12_readFace_90 : decode cX12_readFace 90 = .ok (.iastore, 1) := by decide +kernel
theorem dX12_readFace_91 : decode cX12_readFace 91 = .ok (.aload_n 0, 1) := by decide +kernel
theorem dX12_readFace_92 : decode cX12_readFace 92 = .ok (.getfield 36, 3) := by decide +kernel
theorem dX12_readFace_95 : decode cX12_readFace 95 = .ok (.iload_n 1, 1) := by decide +kernel
theorem dX12_readFace_96 : decode cX12_readFace 96 = .ok (.aload_n 0, 1) := by decide +kernel
theorem dX12_readFace_97 : decode cX12_readFace 97 = .ok (.ldc2_w 155, 3) := by decide +kernel
theorem dX12_readFace_100 : decode cX12_readFace 100 = .ok (.iconst 0, 1) := by decide +kernel
theorem dX12_readFace_101 : decode cX12_readFace 101 = .ok (.bipush 9, 2) := by decide +kernel
theorem dX12_readFace_103 : decode cX12_readFace 103 = .ok (.invokevirtual 309, 3) := by decide +kernel
theorem dX12_readFace_106 : decode cX12_readFace 106 = .ok (.iastore, 1) := by decide +kernel
theorem dX12_readFace_107 : decode cX12_readFace 107 = .ok (.aload_n 0, 1) := by decide +kernel
theorem dX12_readFace_108 : decode cX12_readFace 108 = .ok (.aload_n 0, 1) := by decide +kernel
theorem dX12_readFace_109 : decode cX12_readFace 109 = .ok (.ldc2_w 157, 3) := by decide +kernel
theorem dX12_readFace_112 : decode cX12_readFace 112 = .ok (.invokevirtual 249, 3) := by decide +kernel
theorem dX12_readFace_115 : decode cX12_readFace 115 = .ok (.invokevirtual 252, 3) := by decide +kernel
theorem dX12_readFace_118 : decode cX12_readFace 118 = .ok (.iconst 0, 1) := by decide +kernel
theorem dX12_readFace_119 : decode cX12_readFace 119 = .ok (.istore_n 2, 1) := by decide +kernel
theorem dX12_readFace_120 : decode cX12_readFace 120 = .ok (.iload_n 2, 1) := by decide +kernel
theorem dX12_readFace_121 : decode cX12_readFace 121 = .ok (.aload_n 0, 1) := by decide +kernel
theorem dX12_readFace_122 : decode cX12_readFace 122 = .ok (.getfield 20, 3) := by decide +kernel
theorem dX12_readFace_125 : decode cX12_readFace 125 = .ok (.aload_n 0, 1) := by decide +kernel
theorem dX12_readFace_126 : decode cX12_readFace 126 = .ok (.getfield 263, 3) := by decide +kernel
theorem dX12_readFace_129 : decode cX12_readFace 129 = .ok (.iaload, 1) := by decide +kernel
theorem dX12_readFace_130 : decode cX12_readFace 130 = .ok (.if_icmp .ge 27, 3) := by decide +kernel
theorem dX12_readFace_133 : decode cX12_readFace 133 = .ok (.aload_n 0, 1) := by decide +kernel
theorem dX12_readFace_134 : decode cX12_readFace 134 = .ok (.getfield 39, 3) := by decide +kernel
theorem dX12_readFace_137 : decode cX12_readFace 137 = .ok (.bipush 8, 2) := by decide +kernel
theorem dX12_readFace_139 : decode cX12_readFace 139 = .ok (.iload_n 1, 1) := by decide +kernel
theorem dX12_readFace_140 : decode cX12_readFace 140 = .ok (.imul, 1) := by decide +kernel
theorem dX12_readFace_141 : decode cX12_readFace 141 = .ok (.iload_n 2, 1) := by decide +kernel
theorem dX12_readFace_142 : decode cX12_readFace 142 = .ok (.iadd, 1) := by decide +kernel
theorem dX12_readFace_143 : decode cX12_readFace 143 = .ok (.aload_n 0, 1) := by decide +kernel
theorem dX12_readFace_144 : decode cX12_readFace 144 = .ok (.iconst 0, 1) := by decide +kernel
theorem dX12_readFace_145 : decode cX12_readFace 145 = .ok (.bipush 99, 2) := by decide +kernel
theorem dX12_readFace_147 : decode cX12_readFace 147 = .ok (.invokevirtual 256, 3) := by decide +kernel
theorem dX12_readFace_150 : decode cX12_readFace 150 = .ok (.iastore, 1) := by decide +kernel
theorem dX12_readFace_151 : decode cX12_readFace 151 = .ok (.iinc 2 1, 3) := by decide +kernel
theorem dX12_readFace_154 : decode cX12_readFace 154 = .ok (.goto (-34), 3) := by decide +kernel
theorem dX12_readFace_157 : decode cX12_readFace 157 = .ok (.aload_n 0, 1) := by decide +kernel
theorem dX12_readFace_158 : decode cX12_readFace 158 = .ok (.getfield 24, 3) := by decide +kernel
theorem dX12_readFace_161 : decode cX12_readFace 161 = .ok (.aload_n 0, 1) := by decide +kernel
theorem dX12_readFace_162 : decode cX12_readFace 162 = .ok (.getfield 263, 3) := by decide +kernel
theorem dX12_readFace_165 : decode cX12_readFace 165 = .ok (.dup2, 1) := by decide +kernel
theorem dX12_readFace_166 : decode cX12_readFace 166 = .ok (.iaload, 1) := by decide +kernel
theorem dX12_readFace_167 : decode cX12_readFace 167 = .ok (.iconst 1, 1) := by decide +kernel
theorem dX12_readFace_168 : decode cX12_readFace 168 = .ok (.iadd, 1) := by decide +kernel
theorem dX12_readFace_169 : decode cX12_readFace 169 = .ok (.iastore, 1) := by decide +kernel
theorem dX12_readFace_170 : decode cX12_readFace 170 = .ok (.return_, 1) := by decide +kernel
theorem dX12_aFace_0 : decode cX12_aFace 0 = .ok (.aload_n 0, 1) := by decide +kernel
theorem dX12_aFace_1 : decode cX12_aFace 1 = .ok (.invokevirtual 239, 3) := by decide +kernel
theorem dX12_aFace_4 : decode cX12_aFace 4 = .ok (.ifCond .ne 5, 3) := by decide +kernel
theorem dX12_aFace_7 : decode cX12_aFace 7 = .ok (.iconst 0, 1) := by decide +kernel
theorem dX12_aFace_8 : decode cX12_aFace 8 = .ok (.ireturn, 1) := by decide +kernel
theorem dX12_aFace_9 : decode cX12_aFace 9 = .ok (.aload_n 0, 1) := by decide +kernel
theorem dX12_aFace_10 : decode cX12_aFace 10 = .ok (.invokevirtual 305, 3) := by decide +kernel
theorem dX12_aFace_13 : decode cX12_aFace 13 = .ok (.istore_n 2, 1) := by decide +kernel
theorem dX12_aFace_14 : decode cX12_aFace 14 = .ok (.aload_n 0, 1) := by decide +kernel
theorem dX12_aFace_15 : decode cX12_aFace 15 = .ok (.getfield 211, 3) := by decide +kernel
theorem dX12_aFace_18 : decode cX12_aFace 18 = .ok (.iconst 2, 1) := by decide +kernel
theorem dX12_aFace_19 : decode cX12_aFace 19 = .ok (.if_icmp .eq 10, 3) := by decide +kernel
theorem dX12_aFace_22 : decode cX12_aFace 22 = .ok (.aload_n 0, 1) := by decide +kernel
theorem dX12_aFace_23 : decode cX12_aFace 23 = .ok (.invokevirtual 246, 3) := by decide +kernel
theorem dX12_aFace_26 : decode cX12_aFace 26 = .ok (.goto 37, 3) := by decide +kernel
theorem dX12_aFace_29 : decode cX12_aFace 29 = .ok (.iload_n 2, 1) := by decide +kernel
theorem dX12_aFace_30 : decode cX12_aFace 30 = .ok (.ifCond .ge 15, 3) := by decide +kernel
theorem dX12_aFace_33 : decode cX12_aFace 33 = .ok (.aload_n 0, 1) := by decide +kernel
theorem dX12_aFace_34 : decode cX12_aFace 34 = .ok (.iconst 5, 1) := by decide +kernel
theorem dX12_aFace_35 : decode cX12_aFace 35 = .ok (.aload_n 0, 1) := by decide +kernel
theorem dX12_aFace_36 : decode cX12_aFace 36 = .ok (.getfield 204, 3) := by decide +kernel
theorem dX12_aFace_39 : decode cX12_aFace 39 = .ok (.invokevirtual 235, 3) := by decide +kernel
theorem dX12_aFace_42 : decode cX12_aFace 42 = .ok (.goto 21, 3) := by decide +kernel
theorem dX12_aFace_45 : decode cX12_aFace 45 = .ok (.iload_n 1, 1) := by decide +kernel
theorem dX12_aFace_46 : decode cX12_aFace 46 = .ok (.iload_n 2, 1) := by decide +kernel
theorem dX12_aFace_47 : decode cX12_aFace 47 = .ok (.ishr, 1) := by decide +kernel
theorem dX12_aFace_48 : decode cX12_aFace 48 = .ok (.iconst 1, 1) := by decide +kernel
theorem dX12_aFace_49 : decode cX12_aFace 49 = .ok (.iand, 1) := by decide +kernel
theorem dX12_aFace_50 : decode cX12_aFace 50 = .ok (.iconst 1, 1) := by decide +kernel
theorem dX12_aFace_51 : decode cX12_aFace 51 = .ok (.if_icmp .ne 12, 3) := by decide +kernel
theorem dX12_aFace_54 : decode cX12_aFace 54 = .ok (.aload_n 0, 1) := by decide +kernel
theorem dX12_aFace_55 : decode cX12_aFace 55 = .ok (.iconst 3, 1) := by decide +kernel
theorem dX12_aFace_56 : decode cX12_aFace 56 = .ok (.aload_n 0, 1) := by decide +kernel
theorem dX12_aFace_57 : decode cX12_aFace 57 = .ok (.getfield 204, 3) := by decide +kernel
theorem dX12_aFace_60 : decode cX12_aFace 60 = .ok (.invokevirtual 235, 3) := by decide +kernel
theorem dX12_aFace_63 : decode cX12_aFace 63 = .ok (.aload_n 0, 1) := by decide +kernel
theorem dX12_aFace_64 : decode cX12_aFace 64 = .ok (.invokevirtual 239, 3) := by decide +kernel
theorem dX12_aFace_67 : decode cX12_aFace 67 = .ok (.ifCond .eq 7, 3) := by decide +kernel
theorem dX12_aFace_70 : decode cX12_aFace 70 = .ok (.aload_n 0, 1) := by decide +kernel
theorem dX12_aFace_71 : decode cX12_aFace 71 = .ok (.invokevirtual 243, 3) := by decide +kernel
theorem dX12_aFace_74 : decode cX12_aFace 74 = .ok (.iload_n 2, 1) := by decide +kernel
theorem dX12_aFace_75 : decode cX12_aFace 75 = .ok (.ifCond .ge 7, 3) := by decide +kernel
theorem dX12_aFace_78 : decode cX12_aFace 78 = .ok (.iconst 0, 1) := by decide +kernel
theorem dX12_aFace_79 : decode cX12_aFace 79 = .ok (.goto 4, 3) := by decide +kernel
theorem dX12_aFace_82 : decode cX12_aFace 82 = .ok (.iload_n 2, 1) := by decide +kernel
theorem dX12_aFace_83 : decode cX12_aFace 83 = .ok (.ireturn, 1) := by decide +kernel
theorem dX12_readKnows_0 : decode cX12_readKnows 0 = .ok (.aload_n 0, 1) := by decide +kernel
theorem dX12_readKnows_1 : decode cX12_readKnows 1 = .ok (.iconst 0, 1) := by decide +kernel
theorem dX12_readKnows_2 : decode cX12_readKnows 2 = .ok (.invokevirtual 313, 3) := by decide +kernel
theorem dX12_readKnows_5 : decode cX12_readKnows 5 = .ok (.istore_n 1, 1) := by decide +kernel
theorem dX12_readKnows_6 : decode cX12_readKnows 6 = .ok (.aload_n 0, 1) := by decide +kernel
theorem dX12_readKnows_7 : decode cX12_readKnows 7 = .ok (.aload_n 0, 1) := by decide +kernel
theorem dX12_readKnows_8 : decode cX12_readKnows 8 = .ok (.getfield 42, 3) := by decide +kernel
theorem dX12_readKnows_11 : decode cX12_readKnows 11 = .ok (.bipush 16, 2) := by decide +kernel
theorem dX12_readKnows_13 : decode cX12_readKnows 13 = .ok (.aload_n 0, 1) := by decide +kernel
theorem dX12_readKnows_14 : decode cX12_readKnows 14 = .ok (.getfield 263, 3) := by decide +kernel
theorem dX12_readKnows_17 : decode cX12_readKnows 17 = .ok (.imul, 1) := by decide +kernel
theorem dX12_readKnows_18 : decode cX12_readKnows 18 = .ok (.iload_n 1, 1) := by decide +kernel
theorem dX12_readKnows_19 : decode cX12_readKnows 19 = .ok (.iadd, 1) := by decide +kernel
theorem dX12_readKnows_20 : decode cX12_readKnows 20 = .ok (.iaload, 1) := by decide +kernel
theorem dX12_readKnows_21 : decode cX12_readKnows 21 = .ok (.iconst 1, 1) := by decide +kernel
theorem dX12_readKnows_22 : decode cX12_readKnows 22 = .ok (.iload_n 1, 1) := by decide +kernel
theorem dX12_readKnows_23 : decode cX12_readKnows 23 = .ok (.ishl, 1) := by decide +kernel
theorem dX12_readKnows_24 : decode cX12_readKnows 24 = .ok (.ior, 1) := by decide +kernel
theorem dX12_readKnows_25 : decode cX12_readKnows 25 = .ok (.invokevirtual 313, 3) := by decide +kernel
theorem dX12_readKnows_28 : decode cX12_readKnows 28 = .ok (.istore_n 2, 1) := by decide +kernel
theorem dX12_readKnows_29 : decode cX12_readKnows 29 = .ok (.aload_n 0, 1) := by decide +kernel
theorem dX12_readKnows_30 : decode cX12_readKnows 30 = .ok (.invokevirtual 239, 3) := by decide +kernel
theorem dX12_readKnows_33 : decode cX12_readKnows 33 = .ok (.ifCond .ne 4, 3) := by decide +kernel
theorem dX12_readKnows_36 : decode cX12_readKnows 36 = .ok (.return_, 1) := by decide +kernel
theorem dX12_readKnows_37 : decode cX12_readKnows 37 = .ok (.aload_n 0, 1) := by decide +kernel
theorem dX12_readKnows_38 : decode cX12_readKnows 38 = .ok (.getfield 42, 3) := by decide +kernel
theorem dX12_readKnows_41 : decode cX12_readKnows 41 = .ok (.bipush 16, 2) := by decide +kernel
theorem dX12_readKnows_43 : decode cX12_readKnows 43 = .ok (.aload_n 0, 1) := by decide +kernel
theorem dX12_readKnows_44 : decode cX12_readKnows 44 = .ok (.getfield 263, 3) := by decide +kernel
theorem dX12_readKnows_47 : decode cX12_readKnows 47 = .ok (.imul, 1) := by decide +kernel
theorem dX12_readKnows_48 : decode cX12_readKnows 48 = .ok (.iload_n 1, 1) := by decide +kernel
theorem dX12_readKnows_49 : decode cX12_readKnows 49 = .ok (.iadd, 1) := by decide +kernel
theorem dX12_readKnows_50 : decode cX12_readKnows 50 = .ok (.dup2, 1) := by decide +kernel
theorem dX12_readKnows_51 : decode cX12_readKnows 51 = .ok (.iaload, 1) := by decide +kernel
theorem dX12_readKnows_52 : decode cX12_readKnows 52 = .ok (.iconst 1, 1) := by decide +kernel
theorem dX12_readKnows_53 : decode cX12_readKnows 53 = .ok (.iload_n 2, 1) := by decide +kernel
theorem dX12_readKnows_54 : decode cX12_readKnows 54 = .ok (.ishl, 1) := by decide +kernel
theorem dX12_readKnows_55 : decode cX12_readKnows 55 = .ok (.ior, 1) := by decide +kernel
theorem dX12_readKnows_56 : decode cX12_readKnows 56 = .ok (.iastore, 1) := by decide +kernel
theorem dX12_readKnows_57 : decode cX12_readKnows 57 = .ok (.aload_n 0, 1) := by decide +kernel
theorem dX12_readKnows_58 : decode cX12_readKnows 58 = .ok (.getfield 42, 3) := by decide +kernel
theorem dX12_readKnows_61 : decode cX12_readKnows 61 = .ok (.bipush 16, 2) := by decide +kernel
theorem dX12_readKnows_63 : decode cX12_readKnows 63 = .ok (.aload_n 0, 1) := by decide +kernel
theorem dX12_readKnows_64 : decode cX12_readKnows 64 = .ok (.getfield 263, 3) := by decide +kernel
theorem dX12_readKnows_67 : decode cX12_readKnows 67 = .ok (.imul, 1) := by decide +kernel
theorem dX12_readKnows_68 : decode cX12_readKnows 68 = .ok (.iload_n 2, 1) := by decide +kernel
theorem dX12_readKnows_69 : decode cX12_readKnows 69 = .ok (.iadd, 1) := by decide +kernel
theorem dX12_readKnows_70 : decode cX12_readKnows 70 = .ok (.dup2, 1) := by decide +kernel
theorem dX12_readKnows_71 : decode cX12_readKnows 71 = .ok (.iaload, 1) := by decide +kernel
theorem dX12_readKnows_72 : decode cX12_readKnows 72 = .ok (.iconst 1, 1) := by decide +kernel
theorem dX12_readKnows_73 : decode cX12_readKnows 73 = .ok (.iload_n 1, 1) := by decide +kernel
theorem dX12_readKnows_74 : decode cX12_readKnows 74 = .ok (.ishl, 1) := by decide +kernel
theorem dX12_readKnows_75 : decode cX12_readKnows 75 = .ok (.ior, 1) := by decide +kernel
theorem dX12_readKnows_76 : decode cX12_readKnows 76 = .ok (.iastore, 1) := by decide +kernel
theorem dX12_readKnows_77 : decode cX12_readKnows 77 = .ok (.aload_n 0, 1) := by decide +kernel
theorem dX12_readKnows_78 : decode cX12_readKnows 78 = .ok (.getfield 27, 3) := by decide +kernel
theorem dX12_readKnows_81 : decode cX12_readKnows 81 = .ok (.aload_n 0, 1) := by decide +kernel
theorem dX12_readKnows_82 : decode cX12_readKnows 82 = .ok (.getfield 263, 3) := by decide +kernel
theorem dX12_readKnows_85 : decode cX12_readKnows 85 = .ok (.dup2, 1) := by decide +kernel
theorem dX12_readKnows_86 : decode cX12_readKnows 86 = .ok (.iaload, 1) := by decide +kernel
theorem dX12_readKnows_87 : decode cX12_readKnows 87 = .ok (.iconst 1, 1) := by decide +kernel
theorem dX12_readKnows_88 : decode cX12_readKnows 88 = .ok (.iadd, 1) := by decide +kernel
theorem dX12_readKnows_89 : decode cX12_readKnows 89 = .ok (.iastore, 1) := by decide +kernel
theorem dX12_readKnows_90 : decode cX12_readKnows 90 = .ok (.return_, 1) := by decide +kernel
theorem dX12_readPrinter_0 : decode cX12_readPrinter 0 = .ok (.aload_n 0, 1) := by decide +kernel
theorem dX12_readPrinter_1 : decode cX12_readPrinter 1 = .ok (.getfield 211, 3) := by decide +kernel
theorem dX12_readPrinter_4 : decode cX12_readPrinter 4 = .ok (.iconst 4, 1) := by decide +kernel
theorem dX12_readPrinter_5 : decode cX12_readPrinter 5 = .ok (.if_icmp .ne 39, 3) := by decide +kernel
theorem dX12_readPrinter_8 : decode cX12_readPrinter 8 = .ok (.aload_n 0, 1) := by decide +kernel
theorem dX12_readPrinter_9 : decode cX12_readPrinter 9 = .ok (.getfield 229, 3) := by decide +kernel
theorem dX12_readPrinter_12 : decode cX12_readPrinter 12 = .ok (.iconst 4, 1) := by decide +kernel
theorem dX12_readPrinter_13 : decode cX12_readPrinter 13 = .ok (.if_icmp .ge 31, 3) := by decide +kernel
theorem dX12_readPrinter_16 : decode cX12_readPrinter 16 = .ok (.aload_n 0, 1) := by decide +kernel
theorem dX12_readPrinter_17 : decode cX12_readPrinter 17 = .ok (.getfield 58, 3) := by decide +kernel
theorem dX12_readPrinter_20 : decode cX12_readPrinter 20 = .ok (.iconst 4, 1) := by decide +kernel
theorem dX12_readPrinter_21 : decode cX12_readPrinter 21 = .ok (.aload_n 0, 1) := by decide +kernel
theorem dX12_readPrinter_22 : decode cX12_readPrinter 22 = .ok (.getfield 263, 3) := by decide +kernel
theorem dX12_readPrinter_25 : decode cX12_readPrinter 25 = .ok (.imul, 1) := by decide +kernel
theorem dX12_readPrinter_26 : decode cX12_readPrinter 26 = .ok (.aload_n 0, 1) := by decide +kernel
theorem dX12_readPrinter_27 : decode cX12_readPrinter 27 = .ok (.getfield 229, 3) := by decide +kernel
theorem dX12_readPrinter_30 : decode cX12_readPrinter 30 = .ok (.iadd, 1) := by decide +kernel
theorem dX12_readPrinter_31 : decode cX12_readPrinter 31 = .ok (.baload, 1) := by decide +kernel
theorem dX12_readPrinter_32 : decode cX12_readPrinter 32 = .ok (.ifCond .eq 12, 3) := by decide +kernel
theorem dX12_readPrinter_35 : decode cX12_readPrinter 35 = .ok (.aload_n 0, 1) := by decide +kernel
theorem dX12_readPrinter_36 : decode cX12_readPrinter 36 = .ok (.iconst 3, 1) := by decide +kernel
theorem dX12_readPrinter_37 : decode cX12_readPrinter 37 = .ok (.aload_n 0, 1) := by decide +kernel
theorem dX12_readPrinter_38 : decode cX12_readPrinter 38 = .ok (.getfield 204, 3) := by decide +kernel
theorem dX12_readPrinter_41 : decode cX12_readPrinter 41 = .ok (.invokevirtual 235, 3) := by decide +kernel
theorem dX12_readPrinter_44 : decode cX12_readPrinter 44 = .ok (.iconst 4, 1) := by decide +kernel
theorem dX12_readPrinter_45 : decode cX12_readPrinter 45 = .ok (.aload_n 0, 1) := by decide +kernel
theorem dX12_readPrinter_46 : decode cX12_readPrinter 46 = .ok (.getfield 263, 3) := by decide +kernel
theorem dX12_readPrinter_49 : decode cX12_readPrinter 49 = .ok (.imul, 1) := by decide +kernel
theorem dX12_readPrinter_50 : decode cX12_readPrinter 50 = .ok (.aload_n 0, 1) := by decide +kernel
theorem dX12_readPrinter_51 : decode cX12_readPrinter 51 = .ok (.iconst 0, 1) := by decide +kernel
theorem dX12_readPrinter_52 : decode cX12_readPrinter 52 = .ok (.iconst 3, 1) := by decide +kernel
theorem dX12_readPrinter_53 : decode cX12_readPrinter 53 = .ok (.invokevirtual 256, 3) := by decide +kernel
theorem dX12_readPrinter_56 : decode cX12_readPrinter 56 = .ok (.iadd, 1) := by decide +kernel
theorem dX12_readPrinter_57 : decode cX12_readPrinter 57 = .ok (.istore_n 1, 1) := by decide +kernel
theorem dX12_readPrinter_58 : decode cX12_readPrinter 58 = .ok (.aload_n 0, 1) := by decide +kernel
theorem dX12_readPrinter_59 : decode cX12_readPrinter 59 = .ok (.getfield 58, 3) := by decide +kernel
theorem dX12_readPrinter_62 : decode cX12_readPrinter 62 = .ok (.iload_n 1, 1) := by decide +kernel
theorem dX12_readPrinter_63 : decode cX12_readPrinter 63 = .ok (.iconst 1, 1) := by decide +kernel
theorem dX12_readPrinter_64 : decode cX12_readPrinter 64 = .ok (.bastore, 1) := by decide +kernel
theorem dX12_readPrinter_65 : decode cX12_readPrinter 65 = .ok (.aload_n 0, 1) := by decide +kernel
theorem dX12_readPrinter_66 : decode cX12_readPrinter 66 = .ok (.getfield 45, 3) := by decide +kernel
theorem dX12_readPrinter_69 : decode cX12_readPrinter 69 = .ok (.iload_n 1, 1) := by decide +kernel
theorem dX12_readPrinter_70 : decode cX12_readPrinter 70 = .ok (.aload_n 0, 1) := by decide +kernel
theorem dX12_readPrinter_71 : decode cX12_readPrinter 71 = .ok (.ldc2_w 163, 3) := by decide +kernel
theorem dX12_readPrinter_74 : decode cX12_readPrinter 74 = .ok (.iconst 0, 1) := by decide +kernel
theorem dX12_readPrinter_75 : decode cX12_readPrinter 75 = .ok (.bipush 9, 2) := by decide +kernel
theorem dX12_readPrinter_77 : decode cX12_readPrinter 77 = .ok (.invokevirtual 309, 3) := by decide +kernel
theorem dX12_readPrinter_80 : decode cX12_readPrinter 80 = .ok (.iastore, 1) := by decide +kernel
theorem dX12_readPrinter_81 : decode cX12_readPrinter 81 = .ok (.aload_n 0, 1) := by decide +kernel
theorem dX12_readPrinter_82 : decode cX12_readPrinter 82 = .ok (.getfield 48, 3) := by decide +kernel
theorem dX12_readPrinter_85 : decode cX12_readPrinter 85 = .ok (.iload_n 1, 1) := by decide +kernel
theorem dX12_readPrinter_86 : decode cX12_readPrinter 86 = .ok (.aload_n 0, 1) := by decide +kernel
theorem dX12_readPrinter_87 : decode cX12_readPrinter 87 = .ok (.ldc2_w 165, 3) := by decide +kernel
theorem dX12_readPrinter_90 : decode cX12_readPrinter 90 = .ok (.iconst 0, 1) := by decide +kernel
theorem dX12_readPrinter_91 : decode cX12_readPrinter 91 = .ok (.bipush 99, 2) := by decide +kernel
theorem dX12_readPrinter_93 : decode cX12_readPrinter 93 = .ok (.invokevirtual 309, 3) := by decide +kernel
theorem dX12_readPrinter_96 : decode cX12_readPrinter 96 = .ok (.iastore, 1) := by decide +kernel
theorem dX12_readPrinter_97 : decode cX12_readPrinter 97 = .ok (.return_, 1) := by decide +kernel
theorem dX12_fault_0 : decode cX12_fault 0 = .ok (.iload_n 1, 1) := by decide +kernel
theorem dX12_fault_1 : decode cX12_fault 1 = .ok (.ifCond .ne 10, 3) := by decide +kernel
theorem dX12_fault_4 : decode cX12_fault 4 = .ok (.aload_n 0, 1) := by decide +kernel
theorem dX12_fault_5 : decode cX12_fault 5 = .ok (.getfield 146, 3) := by decide +kernel
theorem dX12_fault_8 : decode cX12_fault 8 = .ok (.goto 16, 3) := by decide +kernel
theorem dX12_fault_11 : decode cX12_fault 11 = .ok (.iload_n 1, 1) := by decide +kernel
theorem dX12_fault_12 : decode cX12_fault 12 = .ok (.iconst 1, 1) := by decide +kernel
theorem dX12_fault_13 : decode cX12_fault 13 = .ok (.if_icmp .ne 10, 3) := by decide +kernel
theorem dX12_fault_16 : decode cX12_fault 16 = .ok (.aload_n 0, 1) := by decide +kernel
theorem dX12_fault_17 : decode cX12_fault 17 = .ok (.getfield 16, 3) := by decide +kernel
theorem dX12_fault_20 : decode cX12_fault 20 = .ok (.goto 4, 3) := by decide +kernel
theorem dX12_fault_23 : decode cX12_fault 23 = .ok (.iconst (-1), 1) := by decide +kernel
theorem dX12_fault_24 : decode cX12_fault 24 = .ok (.ireturn, 1) := by decide +kernel
theorem dX12_rules_0 : decode cX12_rules 0 = .ok (.aload_n 0, 1) := by decide +kernel
theorem dX12_rules_1 : decode cX12_rules 1 = .ok (.getfield 260, 3) := by decide +kernel
theorem dX12_rules_4 : decode cX12_rules 4 = .ok (.sipush 800, 3) := by decide +kernel
theorem dX12_rules_7 : decode cX12_rules 7 = .ok (.if_icmp .le 6, 3) := by decide +kernel
theorem dX12_rules_10 : decode cX12_rules 10 = .ok (.bipush (-2), 2) := by decide +kernel
theorem dX12_rules_12 : decode cX12_rules 12 = .ok (.ireturn, 1) := by decide +kernel
theorem dX12_rules_13 : decode cX12_rules 13 = .ok (.aload_n 0, 1) := by decide +kernel
theorem dX12_rules_14 : decode cX12_rules 14 = .ok (.iconst 1, 1) := by decide +kernel
theorem dX12_rules_15 : decode cX12_rules 15 = .ok (.invokevirtual 266, 3) := by decide +kernel
theorem dX12_rules_18 : decode cX12_rules 18 = .ok (.aload_n 0, 1) := by decide +kernel
theorem dX12_rules_19 : decode cX12_rules 19 = .ok (.sipush 400, 3) := by decide +kernel
theorem dX12_rules_22 : decode cX12_rules 22 = .ok (.putfield 316, 3) := by decide +kernel
theorem dX12_rules_25 : decode cX12_rules 25 = .ok (.aload_n 0, 1) := by decide +kernel
theorem dX12_rules_26 : decode cX12_rules 26 = .ok (.iconst 0, 1) := by decide +kernel
theorem dX12_rules_27 : decode cX12_rules 27 = .ok (.putfield 319, 3) := by decide +kernel
theorem dX12_rules_30 : decode cX12_rules 30 = .ok (.aload_n 0, 1) := by decide +kernel
theorem dX12_rules_31 : decode cX12_rules 31 = .ok (.iconst 0, 1) := by decide +kernel
theorem dX12_rules_32 : decode cX12_rules 32 = .ok (.putfield 322, 3) := by decide +kernel
theorem dX12_rules_35 : decode cX12_rules 35 = .ok (.aload_n 0, 1) := by decide +kernel
theorem dX12_rules_36 : decode cX12_rules 36 = .ok (.iconst 0, 1) := by decide +kernel
theorem dX12_rules_37 : decode cX12_rules 37 = .ok (.putfield 325, 3) := by decide +kernel
theorem dX12_rules_40 : decode cX12_rules 40 = .ok (.aload_n 0, 1) := by decide +kernel
theorem dX12_rules_41 : decode cX12_rules 41 = .ok (.iconst 0, 1) := by decide +kernel
theorem dX12_rules_42 : decode cX12_rules 42 = .ok (.putfield 328, 3) := by decide +kernel
theorem dX12_rules_45 : decode cX12_rules 45 = .ok (.aload_n 0, 1) := by decide +kernel
theorem dX12_rules_46 : decode cX12_rules 46 = .ok (.invokevirtual 243, 3) := by decide +kernel
theorem dX12_rules_49 : decode cX12_rules 49 = .ok (.aload_n 0, 1) := by decide +kernel
theorem dX12_rules_50 : decode cX12_rules 50 = .ok (.invokevirtual 239, 3) := by decide +kernel
theorem dX12_rules_53 : decode cX12_rules 53 = .ok (.ifCond .eq 17, 3) := by decide +kernel
theorem dX12_rules_56 : decode cX12_rules 56 = .ok (.aload_n 0, 1) := by decide +kernel
theorem dX12_rules_57 : decode cX12_rules 57 = .ok (.getfield 211, 3) := by decide +kernel
theorem dX12_rules_60 : decode cX12_rules 60 = .ok (.ifCond .eq 10, 3) := by decide +kernel
theorem dX12_rules_63 : decode cX12_rules 63 = .ok (.aload_n 0, 1) := by decide +kernel
theorem dX12_rules_64 : decode cX12_rules 64 = .ok (.invokevirtual 331, 3) := by decide +kernel
theorem dX12_rules_67 : decode cX12_rules 67 = .ok (.goto (-18), 3) := by decide +kernel
theorem dX12_rules_70 : decode cX12_rules 70 = .ok (.aload_n 0, 1) := by decide +kernel
theorem dX12_rules_71 : decode cX12_rules 71 = .ok (.invokevirtual 239, 3) := by decide +kernel
theorem dX12_rules_74 : decode cX12_rules 74 = .ok (.ifCond .ne 5, 3) := by decide +kernel
theorem dX12_rules_77 : decode cX12_rules 77 = .ok (.iconst (-1), 1) := by decide +kernel
theorem dX12_rules_78 : decode cX12_rules 78 = .ok (.ireturn, 1) := by decide +kernel
theorem dX12_rules_79 : decode cX12_rules 79 = .ok (.iconst 0, 1) := by decide +kernel
theorem dX12_rules_80 : decode cX12_rules 80 = .ok (.istore_n 1, 1) := by decide +kernel
theorem dX12_rules_81 : decode cX12_rules 81 = .ok (.iload_n 1, 1) := by decide +kernel
theorem dX12_rules_82 : decode cX12_rules 82 = .ok (.sipush 400, 3) := by decide +kernel
theorem dX12_rules_85 : decode cX12_rules 85 = .ok (.if_icmp .ge 41, 3) := by decide +kernel
theorem dX12_rules_88 : decode cX12_rules 88 = .ok (.aload_n 0, 1) := by decide +kernel
theorem dX12_rules_89 : decode cX12_rules 89 = .ok (.getfield 65, 3) := by decide +kernel
theorem dX12_rules_92 : decode cX12_rules 92 = .ok (.iload_n 1, 1) := by decide +kernel
theorem dX12_rules_93 : decode cX12_rules 93 = .ok (.aload_n 0, 1) := by decide +kernel
theorem dX12_rules_94 : decode cX12_rules 94 = .ok (.getfield 65, 3) := by decide +kernel
theorem dX12_rules_97 : decode cX12_rules 97 = .ok (.sipush 400, 3) := by decide +kernel
theorem dX12_rules_100 : decode cX12_rules 100 = .ok (.iload_n 1, 1) := by decide +kernel
theorem dX12_rules_101 : decode cX12_rules 101 = .ok (.iadd, 1) := by decide +kernel
theorem dX12_rules_102 : decode cX12_rules 102 = .ok (.iaload, 1) := by decide +kernel
theorem dX12_rules_103 : decode cX12_rules 103 = .ok (.iastore, 1) := by decide +kernel
theorem dX12_rules_104 : decode cX12_rules 104 = .ok (.aload_n 0, 1) := by decide +kernel
theorem dX12_rules_105 : decode cX12_rules 105 = .ok (.getfield 68, 3) := by decide +kernel
theorem dX12_rules_108 : decode cX12_rules 108 = .ok (.iload_n 1, 1) := by decide +kernel
theorem dX12_rules_109 : decode cX12_rules 109 = .ok (.aload_n 0, 1) := by decide +kernel
theorem dX12_rules_110 : decode cX12_rules 110 = .ok (.getfield 68, 3) := by decide +kernel
theorem dX12_rules_113 : decode cX12_rules 113 = .ok (.sipush 400, 3) := by decide +kernel
theorem dX12_rules_116 : decode cX12_rules 116 = .ok (.iload_n 1, 1) := by decide +kernel
theorem dX12_rules_117 : decode cX12_rules 117 = .ok (.iadd, 1) := by decide +kernel
theorem dX12_rules_118 : decode cX12_rules 118 = .ok (.iaload, 1) := by decide +kernel
theorem dX12_rules_119 : decode cX12_rules 119 = .ok (.iastore, 1) := by decide +kernel
theorem dX12_rules_120 : decode cX12_rules 120 = .ok (.iinc 1 1, 3) := by decide +kernel
theorem dX12_rules_123 : decode cX12_rules 123 = .ok (.goto (-42), 3) := by decide +kernel
theorem dX12_rules_126 : decode cX12_rules 126 = .ok (.iconst 0, 1) := by decide +kernel
theorem dX12_rules_127 : decode cX12_rules 127 = .ok (.istore_n 1, 1) := by decide +kernel
theorem dX12_rules_128 : decode cX12_rules 128 = .ok (.iload_n 1, 1) := by decide +kernel
theorem dX12_rules_129 : decode cX12_rules 129 = .ok (.bipush 7, 2) := by decide +kernel
theorem dX12_rules_131 : decode cX12_rules 131 = .ok (.if_icmp .ge 47, 3) := by decide +kernel
theorem dX12_rules_134 : decode cX12_rules 134 = .ok (.aload_n 0, 1) := by decide +kernel
theorem dX12_rules_135 : decode cX12_rules 135 = .ok (.getfield 80, 3) := by decide +kernel
theorem dX12_rules_138 : decode cX12_rules 138 = .ok (.iload_n 1, 1) := by decide +kernel
theorem dX12_rules_139 : decode cX12_rules 139 = .ok (.aload_n 0, 1) := by decide +kernel
theorem dX12_rules_140 : decode cX12_rules 140 = .ok (.getfield 80, 3) := by decide +kernel
theorem dX12_rules_143 : decode cX12_rules 143 = .ok (.bipush 7, 2) := by decide +kernel
theorem dX12_rules_145 : decode cX12_rules 145 = .ok (.iload_n 1, 1) := by decide +kernel
theorem dX12_rules_146 : decode cX12_rules 146 = .ok (.iadd, 1) := by decide +kernel
theorem dX12_rules_147 : decode cX12_rules 147 = .ok (.iaload, 1) := by decide +kernel
theorem dX12_rules_148 : decode cX12_rules 148 = .ok (.sipush 400, 3) := by decide +kernel
theorem dX12_rules_151 : decode cX12_rules 151 = .ok (.isub, 1) := by decide +kernel
theorem dX12_rules_152 : decode cX12_rules 152 = .ok (.iastore, 1) := by decide +kernel
theorem dX12_rules_153 : decode cX12_rules 153 = .ok (.aload_n 0, 1) := by decide +kernel
theorem dX12_rules_154 : decode cX12_rules 154 = .ok (.getfield 83, 3) := by decide +kernel
theorem dX12_rules_157 : decode cX12_rules 157 = .ok (.iload_n 1, 1) := by decide +kernel
theorem dX12_rules_158 : decode cX12_rules 158 = .ok (.aload_n 0, 1) := by decide +kernel
theorem dX12_rules_159 : decode cX12_rules 159 = .ok (.getfield 83, 3) := by decide +kernel
theorem dX12_rules_162 : decode cX12_rules 162 = .ok (.bipush 7, 2) := by decide +kernel
theorem dX12_rules_164 : decode cX12_rules 164 = .ok (.iload_n 1, 1) := by decide +kernel
theorem dX12_rules_165 : decode cX12_rules 165 = .ok (.iadd, 1) := by decide +kernel
theorem dX12_rules_166 : decode cX12_rules 166 = .ok (.iaload, 1) := by decide +kernel
theorem dX12_rules_167 : decode cX12_rules 167 = .ok (.sipush 400, 3) := by decide +kernel
theorem dX12_rules_170 : decode cX12_rules 170 = .ok (.isub, 1) := by decide +kernel
theorem dX12_rules_171 : decode cX12_rules 171 = .ok (.iastore, 1) := by decide +kernel
theorem dX12_rules_172 : decode cX12_rules 172 = .ok (.iinc 1 1, 3) := by decide +kernel
theorem dX12_rules_175 : decode cX12_rules 175 = .ok (.goto (-47), 3) := by decide +kernel
theorem dX12_rules_178 : decode cX12_rules 178 = .ok (.aload_n 0, 1) := by decide +kernel
theorem dX12_rules_179 : decode cX12_rules 179 = .ok (.aload_n 0, 1) := by decide +kernel
theorem dX12_rules_180 : decode cX12_rules 180 = .ok (.getfield 328, 3) := by decide +kernel
theorem dX12_rules_183 : decode cX12_rules 183 = .ok (.putfield 287, 3) := by decide +kernel
theorem dX12_rules_186 : decode cX12_rules 186 = .ok (.aload_n 0, 1) := by decide +kernel
theorem dX12_rules_187 : decode cX12_rules 187 = .ok (.aload_n 0, 1) := by decide +kernel
theorem dX12_rules_188 : decode cX12_rules 188 = .ok (.getfield 322, 3) := by decide +kernel
theorem dX12_rules_191 : decode cX12_rules 191 = .ok (.putfield 281, 3) := by decide +kernel
theorem dX12_rules_194 : decode cX12_rules 194 = .ok (.aload_n 0, 1) := by decide +kernel
theorem dX12_rules_195 : decode cX12_rules 195 = .ok (.aload_n 0, 1) := by decide +kernel
theorem dX12_rules_196 : decode cX12_rules 196 = .ok (.getfield 319, 3) := by decide +kernel
theorem dX12_rules_199 : decode cX12_rules 199 = .ok (.putfield 284, 3) := by decide +kernel
theorem dX12_rules_202 : decode cX12_rules 202 = .ok (.aload_n 0, 1) := by decide +kernel
theorem dX12_rules_203 : decode cX12_rules 203 = .ok (.aload_n 0, 1) := by decide +kernel
theorem dX12_rules_204 : decode cX12_rules 204 = .ok (.getfield 325, 3) := by decide +kernel
theorem dX12_rules_207 : decode cX12_rules 207 = .ok (.putfield 278, 3) := by decide +kernel
theorem dX12_rules_210 : decode cX12_rules 210 = .ok (.aload_n 0, 1) := by decide +kernel
theorem dX12_rules_211 : decode cX12_rules 211 = .ok (.getfield 278, 3) := by decide +kernel
theorem dX12_rules_214 : decode cX12_rules 214 = .ok (.ireturn, 1) := by decide +kernel
theorem dX12_readRule_0 : decode cX12_readRule 0 = .ok (.aload_n 0, 1) := by decide +kernel
theorem dX12_readRule_1 : decode cX12_readRule 1 = .ok (.ldc2_w 169, 3) := by decide +kernel
theorem dX12_readRule_4 : decode cX12_readRule 4 = .ok (.invokevirtual 249, 3) := by decide +kernel
theorem dX12_readRule_7 : decode cX12_readRule 7 = .ok (.istore_n 1, 1) := by decide +kernel
theorem dX12_readRule_8 : decode cX12_readRule 8 = .ok (.iload_n 1, 1) := by decide +kernel
theorem dX12_readRule_9 : decode cX12_readRule 9 = .ok (.ifCond .ne 13, 3) := by decide +kernel
theorem dX12_readRule_12 : decode cX12_readRule 12 = .ok (.aload_n 0, 1) := by decide +kernel
theorem dX12_readRule_13 : decode cX12_readRule 13 = .ok (.ldc2_w 171, 3) := by decide +kernel
theorem dX12_readRule_16 : decode cX12_readRule 16 = .ok (.invokevirtual 249, 3) := by decide +kernel
theorem dX12_readRule_19 : decode cX12_readRule 19 = .ok (.ifCond .eq 26, 3) := by decide +kernel
theorem dX12_readRule_22 : decode cX12_readRule 22 = .ok (.iload_n 1, 1) := by decide +kernel
theorem dX12_readRule_23 : decode cX12_readRule 23 = .ok (.ifCond .eq 13, 3) := by decide +kernel
theorem dX12_readRule_26 : decode cX12_readRule 26 = .ok (.aload_n 0, 1) := by decide +kernel
theorem dX12_readRule_27 : decode cX12_readRule 27 = .ok (.getfield 328, 3) := by decide +kernel
theorem dX12_readRule_30 : decode cX12_readRule 30 = .ok (.ifCond .eq 19, 3) := by decide +kernel
theorem dX12_readRule_33 : decode cX12_readRule 33 = .ok (.goto 12, 3) := by decide +kernel
theorem dX12_readRule_36 : decode cX12_readRule 36 = .ok (.aload_n 0, 1) := by decide +kernel
theorem dX12_readRule_37 : decode cX12_readRule 37 = .ok (.getfield 322, 3) := by decide +kernel
theorem dX12_readRule_40 : decode cX12_readRule 40 = .ok (.bipush 6, 2) := by decide +kernel
theorem dX12_readRule_42 : decode cX12_readRule 42 = .ok (.if_icmp .ne 7, 3) := by decide +kernel
theorem dX12_readRule_45 : decode cX12_readRule 45 = .ok (.aload_n 0, 1) := by decide +kernel
theorem dX12_readRule_46 : decode cX12_readRule 46 = .ok (.invokevirtual 246, 3) := by decide +kernel
theorem dX12_readRule_49 : decode cX12_readRule 49 = .ok (.aload_n 0, 1) := by decide +kernel
theorem dX12_readRule_50 : decode cX12_readRule 50 = .ok (.invokevirtual 239, 3) := by decide +kernel
theorem dX12_readRule_53 : decode cX12_readRule 53 = .ok (.ifCond .ne 4, 3) := by decide +kernel
theorem dX12_readRule_56 : decode cX12_readRule 56 = .ok (.return_, 1) := by decide +kernel
theorem dX12_readRule_57 : decode cX12_readRule 57 = .ok (.aload_n 0, 1) := by decide +kernel
theorem dX12_readRule_58 : decode cX12_readRule 58 = .ok (.invokevirtual 243, 3) := by decide +kernel
theorem dX12_readRule_61 : decode cX12_readRule 61 = .ok (.iload_n 1, 1) := by decide +kernel
theorem dX12_readRule_62 : decode cX12_readRule 62 = .ok (.ifCond .eq 8, 3) := by decide +kernel
theorem dX12_readRule_65 : decode cX12_readRule 65 = .ok (.bipush 7, 2) := by decide +kernel
theorem dX12_readRule_67 : decode cX12_readRule 67 = .ok (.goto 10, 3) := by decide +kernel
theorem dX12_readRule_70 : decode cX12_readRule 70 = .ok (.bipush 8, 2) := by decide +kernel
theorem dX12_readRule_72 : decode cX12_readRule 72 = .ok (.aload_n 0, 1) := by decide +kernel
theorem dX12_readRule_73 : decode cX12_readRule 73 = .ok (.getfield 322, 3) := by decide +kernel
theorem dX12_readRule_76 : decode cX12_readRule 76 = .ok (.iadd, 1) := by decide +kernel
theorem dX12_readRule_77 : decode cX12_readRule 77 = .ok (.istore_n 2, 1) := by decide +kernel
theorem dX12_readRule_78 : decode cX12_readRule 78 = .ok (.iload_n 1, 1) := by decide +kernel
theorem dX12_readRule_79 : decode cX12_readRule 79 = .ok (.ifCond .ne 7, 3) := by decide +kernel
theorem dX12_readRule_82 : decode cX12_readRule 82 = .ok (.aload_n 0, 1) := by decide +kernel
theorem dX12_readRule_83 : decode cX12_readRule 83 = .ok (.invokevirtual 334, 3) := by decide +kernel
theorem dX12_readRule_86 : decode cX12_readRule 86 = .ok (.aload_n 0, 1) := by decide +kernel
theorem dX12_readRule_87 : decode cX12_readRule 87 = .ok (.invokevirtual 239, 3) := by decide +kernel
theorem dX12_readRule_90 : decode cX12_readRule 90 = .ok (.ifCond .ne 4, 3) := by decide +kernel
theorem dX12_readRule_93 : decode cX12_readRule 93 = .ok (.return_, 1) := by decide +kernel
theorem dX12_readRule_94 : decode cX12_readRule 94 = .ok (.aload_n 0, 1) := by decide +kernel
theorem dX12_readRule_95 : decode cX12_readRule 95 = .ok (.iload_n 1, 1) := by decide +kernel
theorem dX12_readRule_96 : decode cX12_readRule 96 = .ok (.putfield 337, 3) := by decide +kernel
theorem dX12_readRule_99 : decode cX12_readRule 99 = .ok (.aload_n 0, 1) := by decide +kernel
theorem dX12_readRule_100 : decode cX12_readRule 100 = .ok (.getfield 80, 3) := by decide +kernel
theorem dX12_readRule_103 : decode cX12_readRule 103 = .ok (.iload_n 2, 1) := by decide +kernel
theorem dX12_readRule_104 : decode cX12_readRule 104 = .ok (.aload_n 0, 1) := by decide +kernel
theorem dX12_readRule_105 : decode cX12_readRule 105 = .ok (.getfield 316, 3) := by decide +kernel
theorem dX12_readRule_108 : decode cX12_readRule 108 = .ok (.iastore, 1) := by decide +kernel
theorem dX12_readRule_109 : decode cX12_readRule 109 = .ok (.aload_n 0, 1) := by decide +kernel
theorem dX12_readRule_110 : decode cX12_readRule 110 = .ok (.invokevirtual 340, 3) := by decide +kernel
theorem dX12_readRule_113 : decode cX12_readRule 113 = .ok (.aload_n 0, 1) := by decide +kernel
theorem dX12_readRule_114 : decode cX12_readRule 114 = .ok (.getfield 83, 3) := by decide +kernel
theorem dX12_readRule_117 : decode cX12_readRule 117 = .ok (.iload_n 2, 1) := by decide +kernel
theorem dX12_readRule_118 : decode cX12_readRule 118 = .ok (.aload_n 0, 1) := by decide +kernel
theorem dX12_readRule_119 : decode cX12_readRule 119 = .ok (.getfield 316, 3) := by decide +kernel
theorem dX12_readRule_122 : decode cX12_readRule 122 = .ok (.iastore, 1) := by decide +kernel
theorem dX12_readRule_123 : decode cX12_readRule 123 = .ok (.aload_n 0, 1) := by decide +kernel
theorem dX12_readRule_124 : decode cX12_readRule 124 = .ok (.aload_n 0, 1) := by decide +kernel
theorem dX12_readRule_125 : decode cX12_readRule 125 = .ok (.getfield 328, 3) := by decide +kernel
theorem dX12_readRule_128 : decode cX12_readRule 128 = .ok (.ifCond .ne 7, 3) := by decide +kernel
theorem dX12_readRule_131 : decode cX12_readRule 131 = .ok (.iload_n 1, 1) := by decide +kernel
theorem dX12_readRule_132 : decode cX12_readRule 132 = .ok (.ifCond .eq 7, 3) := by decide +kernel
theorem dX12_readRule_135 : decode cX12_readRule 135 = .ok (.iconst 1, 1) := by decide +kernel
theorem dX12_readRule_136 : decode cX12_readRule 136 = .ok (.goto 4, 3) := by decide +kernel
theorem dX12_readRule_139 : decode cX12_readRule 139 = .ok (.iconst 0, 1) := by decide +kernel
theorem dX12_readRule_140 : decode cX12_readRule 140 = .ok (.putfield 328, 3) := by decide +kernel
theorem dX12_readRule_143 : decode cX12_readRule 143 = .ok (.aload_n 0, 1) := by decide +kernel
theorem dX12_readRule_144 : decode cX12_readRule 144 = .ok (.dup, 1) := by decide +kernel
theorem dX12_readRule_145 : decode cX12_readRule 145 = .ok (.getfield 322, 3) := by decide +kernel
theorem dX12_readRule_148 : decode cX12_readRule 148 = .ok (.iload_n 1, 1) := by decide +kernel
theorem dX12_readRule_149 : decode cX12_readRule 149 = .ok (.ifCond .eq 7, 3) := by decide +kernel
theorem dX12_readRule_152 : decode cX12_readRule 152 = .ok (.iconst 0, 1) := by decide +kernel
theorem dX12_readRule_153 : decode cX12_readRule 153 = .ok (.goto 4, 3) := by decide +kernel
theorem dX12_readRule_156 : decode cX12_readRule 156 = .ok (.iconst 1, 1) := by decide +kernel
theorem dX12_readRule_157 : decode cX12_readRule 157 = .ok (.iadd, 1) := by decide +kernel
theorem dX12_readRule_158 : decode cX12_readRule 158 = .ok (.putfield 322, 3) := by decide +kernel
theorem dX12_readRule_161 : decode cX12_readRule 161 = .ok (.aload_n 0, 1) := by decide +kernel
theorem dX12_readRule_162 : decode cX12_readRule 162 = .ok (.dup, 1) := by decide +kernel
theorem dX12_readRule_163 : decode cX12_readRule 163 = .ok (.getfield 325, 3) := by decide +kernel
theorem dX12_readRule_166 : decode cX12_readRule 166 = .ok (.iconst 1, 1) := by decide +kernel
theorem dX12_readRule_167 : decode cX12_readRule 167 = .ok (.iadd, 1) := by decide +kernel
theorem dX12_readRule_168 : decode cX12_readRule 168 = .ok (.putfield 325, 3) := by decide +kernel
theorem dX12_readRule_171 : decode cX12_readRule 171 = .ok (.aload_n 0, 1) := by decide +kernel
theorem dX12_readRule_172 : decode cX12_readRule 172 = .ok (.aload_n 0, 1) := by decide +kernel
theorem dX12_readRule_173 : decode cX12_readRule 173 = .ok (.bipush 59, 2) := by decide +kernel
theorem dX12_readRule_175 : decode cX12_readRule 175 = .ok (.invokevirtual 302, 3) := by decide +kernel
theorem dX12_readRule_178 : decode cX12_readRule 178 = .ok (.invokevirtual 252, 3) := by decide +kernel
theorem dX12_readRule_181 : decode cX12_readRule 181 = .ok (.return_, 1) := by decide +kernel
theorem dX12_readSignName_0 : decode cX12_readSignName 0 = .ok (.aload_n 0, 1) := by decide +kernel
theorem dX12_readSignName_1 : decode cX12_readSignName 1 = .ok (.getfield 211, 3) := by decide +kernel
theorem dX12_readSignName_4 : decode cX12_readSignName 4 = .ok (.iconst 2, 1) := by decide +kernel
theorem dX12_readSignName_5 : decode cX12_readSignName 5 = .ok (.if_icmp .eq 7, 3) := by decide +kernel
theorem dX12_readSignName_8 : decode cX12_readSignName 8 = .ok (.aload_n 0, 1) := by decide +kernel
theorem dX12_readSignName_9 : decode cX12_readSignName 9 = .ok (.invokevirtual 246, 3) := by decide +kernel
theorem dX12_readSignName_12 : decode cX12_readSignName 12 = .ok (.iconst 0, 1) := by decide +kernel
theorem dX12_readSignName_13 : decode cX12_readSignName 13 = .ok (.istore_n 1, 1) := by decide +kernel
theorem dX12_readSignName_14 : decode cX12_readSignName 14 = .ok (.iload_n 1, 1) := by decide +kernel
theorem dX12_readSignName_15 : decode cX12_readSignName 15 = .ok (.aload_n 0, 1) := by decide +kernel
theorem dX12_readSignName_16 : decode cX12_readSignName 16 = .ok (.getfield 322, 3) := by decide +kernel
theorem dX12_readSignName_19 : decode cX12_readSignName 19 = .ok (.if_icmp .ge 39, 3) := by decide +kernel
theorem dX12_readSignName_22 : decode cX12_readSignName 22 = .ok (.aload_n 0, 1) := by decide +kernel
theorem dX12_readSignName_23 : decode cX12_readSignName 23 = .ok (.invokevirtual 239, 3) := by decide +kernel
theorem dX12_readSignName_26 : decode cX12_readSignName 26 = .ok (.ifCond .eq 32, 3) := by decide +kernel
theorem dX12_readSignName_29 : decode cX12_readSignName 29 = .ok (.aload_n 0, 1) := by decide +kernel
theorem dX12_readSignName_30 : decode cX12_readSignName 30 = .ok (.getfield 86, 3) := by decide +kernel
theorem dX12_readSignName_33 : decode cX12_readSignName 33 = .ok (.iload_n 1, 1) := by decide +kernel
theorem dX12_readSignName_34 : decode cX12_readSignName 34 = .ok (.laload, 1) := by decide +kernel
theorem dX12_readSignName_35 : decode cX12_readSignName 35 = .ok (.aload_n 0, 1) := by decide +kernel
theorem dX12_readSignName_36 : decode cX12_readSignName 36 = .ok (.getfield 218, 3) := by decide +kernel
theorem dX12_readSignName_39 : decode cX12_readSignName 39 = .ok (.lcmp, 1) := by decide +kernel
theorem dX12_readSignName_40 : decode cX12_readSignName 40 = .ok (.ifCond .ne 12, 3) := by decide +kernel
theorem dX12_readSignName_43 : decode cX12_readSignName 43 = .ok (.aload_n 0, 1) := by decide +kernel
theorem dX12_readSignName_44 : decode cX12_readSignName 44 = .ok (.iconst 3, 1) := by decide +kernel
theorem dX12_readSignName_45 : decode cX12_readSignName 45 = .ok (.aload_n 0, 1) := by decide +kernel
theorem dX12_readSignName_46 : decode cX12_readSignName 46 = .ok (.getfield 204, 3) := by decide +kernel
theorem dX12_readSignName_49 : decode cX12_readSignName 49 = .ok (.invokevirtual 235, 3) := by decide +kernel
theorem dX12_readSignName_52 : decode cX12_readSignName 52 = .ok (.iinc 1 1, 3) := by decide +kernel
theorem dX12_readSignName_55 : decode cX12_readSignName 55 = .ok (.goto (-41), 3) := by decide +kernel
theorem dX12_readSignName_58 : decode cX12_readSignName 58 = .ok (.aload_n 0, 1) := by decide +kernel
theorem dX12_readSignName_59 : decode cX12_readSignName 59 = .ok (.getfield 86, 3) := by decide +kernel
theorem dX12_readSignName_62 : decode cX12_readSignName 62 = .ok (.aload_n 0, 1) := by decide +kernel
theorem dX12_readSignName_63 : decode cX12_readSignName 63 = .ok (.getfield 322, 3) := by decide +kernel
theorem dX12_readSignName_66 : decode cX12_readSignName 66 = .ok (.aload_n 0, 1) := by decide +kernel
theorem dX12_readSignName_67 : decode cX12_readSignName 67 = .ok (.getfield 218, 3) := by decide +kernel
theorem dX12_readSignName_70 : decode cX12_readSignName 70 = .ok (.lastore, 1) := by decide +kernel
theorem dX12_readSignName_71 : decode cX12_readSignName 71 = .ok (.aload_n 0, 1) := by decide +kernel
theorem dX12_readSignName_72 : decode cX12_readSignName 72 = .ok (.aload_n 0, 1) := by decide +kernel
theorem dX12_readSignName_73 : decode cX12_readSignName 73 = .ok (.getfield 211, 3) := by decide +kernel
theorem dX12_readSignName_76 : decode cX12_readSignName 76 = .ok (.iconst 2, 1) := by decide +kernel
theorem dX12_readSignName_77 : decode cX12_readSignName 77 = .ok (.if_icmp .ne 7, 3) := by decide +kernel
theorem dX12_readSignName_80 : decode cX12_readSignName 80 = .ok (.iconst 1, 1) := by decide +kernel
theorem dX12_readSignName_81 : decode cX12_readSignName 81 = .ok (.goto 4, 3) := by decide +kernel
theorem dX12_readSignName_84 : decode cX12_readSignName 84 = .ok (.iconst 0, 1) := by decide +kernel
theorem dX12_readSignName_85 : decode cX12_readSignName 85 = .ok (.invokevirtual 252, 3) := by decide +kernel
theorem dX12_readSignName_88 : decode cX12_readSignName 88 = .ok (.aload_n 0, 1) := by decide +kernel
theorem dX12_readSignName_89 : decode cX12_readSignName 89 = .ok (.aload_n 0, 1) := by decide +kernel
theorem dX12_readSignName_90 : decode cX12_readSignName 90 = .ok (.ldc2_w 173, 3) := by decide +kernel
theorem dX12_readSignName_93 : decode cX12_readSignName 93 = .ok (.invokevirtual 249, 3) := by decide +kernel
theorem dX12_readSignName_96 : decode cX12_readSignName 96 = .ok (.invokevirtual 252, 3) := by decide +kernel
theorem dX12_readSignName_99 : decode cX12_readSignName 99 = .ok (.return_, 1) := by decide +kernel
theorem dX12_emit_0 : decode cX12_emit 0 = .ok (.aload_n 0, 1) := by decide +kernel
theorem dX12_emit_1 : decode cX12_emit 1 = .ok (.getfield 65, 3) := by decide +kernel
theorem dX12_emit_4 : decode cX12_emit 4 = .ok (.aload_n 0, 1) := by decide +kernel
theorem dX12_emit_5 : decode cX12_emit 5 = .ok (.getfield 316, 3) := by decide +kernel
theorem dX12_emit_8 : decode cX12_emit 8 = .ok (.iload_n 1, 1) := by decide +kernel
theorem dX12_emit_9 : decode cX12_emit 9 = .ok (.iastore, 1) := by decide +kernel
theorem dX12_emit_10 : decode cX12_emit 10 = .ok (.aload_n 0, 1) := by decide +kernel
theorem dX12_emit_11 : decode cX12_emit 11 = .ok (.getfield 68, 3) := by decide +kernel
theorem dX12_emit_14 : decode cX12_emit 14 = .ok (.aload_n 0, 1) := by decide +kernel
theorem dX12_emit_15 : decode cX12_emit 15 = .ok (.getfield 316, 3) := by decide +kernel
theorem dX12_emit_18 : decode cX12_emit 18 = .ok (.iload_n 2, 1) := by decide +kernel
theorem dX12_emit_19 : decode cX12_emit 19 = .ok (.iastore, 1) := by decide +kernel
theorem dX12_emit_20 : decode cX12_emit 20 = .ok (.aload_n 0, 1) := by decide +kernel
theorem dX12_emit_21 : decode cX12_emit 21 = .ok (.dup, 1) := by decide +kernel
theorem dX12_emit_22 : decode cX12_emit 22 = .ok (.getfield 316, 3) := by decide +kernel
theorem dX12_emit_25 : decode cX12_emit 25 = .ok (.iconst 1, 1) := by decide +kernel
theorem dX12_emit_26 : decode cX12_emit 26 = .ok (.iadd, 1) := by decide +kernel
theorem dX12_emit_27 : decode cX12_emit 27 = .ok (.putfield 316, 3) := by decide +kernel
theorem dX12_emit_30 : decode cX12_emit 30 = .ok (.return_, 1) := by decide +kernel
theorem dX12_pushE_0 : decode cX12_pushE 0 = .ok (.aload_n 0, 1) := by decide +kernel
theorem dX12_pushE_1 : decode cX12_pushE 1 = .ok (.getfield 71, 3) := by decide +kernel
theorem dX12_pushE_4 : decode cX12_pushE 4 = .ok (.aload_n 0, 1) := by decide +kernel
theorem dX12_pushE_5 : decode cX12_pushE 5 = .ok (.getfield 343, 3) := by decide +kernel
theorem dX12_pushE_8 : decode cX12_pushE 8 = .ok (.iload_n 1, 1) := by decide +kernel
theorem dX12_pushE_9 : decode cX12_pushE 9 = .ok (.iastore, 1) := by decide +kernel
theorem dX12_pushE_10 : decode cX12_pushE 10 = .ok (.aload_n 0, 1) := by decide +kernel
theorem dX12_pushE_11 : decode cX12_pushE 11 = .ok (.getfield 74, 3) := by decide +kernel
theorem dX12_pushE_14 : decode cX12_pushE 14 = .ok (.aload_n 0, 1) := by decide +kernel
theorem dX12_pushE_15 : decode cX12_pushE 15 = .ok (.getfield 343, 3) := by decide +kernel
theorem dX12_pushE_18 : decode cX12_pushE 18 = .ok (.iload_n 2, 1) := by decide +kernel
theorem dX12_pushE_19 : decode cX12_pushE 19 = .ok (.iastore, 1) := by decide +kernel
theorem dX12_pushE_20 : decode cX12_pushE 20 = .ok (.aload_n 0, 1) := by decide +kernel
theorem dX12_pushE_21 : decode cX12_pushE 21 = .ok (.dup, 1) := by decide +kernel
theorem dX12_pushE_22 : decode cX12_pushE 22 = .ok (.getfield 343, 3) := by decide +kernel
theorem dX12_pushE_25 : decode cX12_pushE 25 = .ok (.iconst 1, 1) := by decide +kernel
theorem dX12_pushE_26 : decode cX12_pushE 26 = .ok (.iadd, 1) := by decide +kernel
theorem dX12_pushE_27 : decode cX12_pushE 27 = .ok (.putfield 343, 3) := by decide +kernel
theorem dX12_pushE_30 : decode cX12_pushE 30 = .ok (.return_, 1) := by decide +kernel
theorem dX12_e_0 : decode cX12_e 0 = .ok (.aload_n 0, 1) := by decide +kernel
theorem dX12_e_1 : decode cX12_e 1 = .ok (.iconst 0, 1) := by decide +kernel
theorem dX12_e_2 : decode cX12_e 2 = .ok (.putfield 343, 3) := by decide +kernel
theorem dX12_e_5 : decode cX12_e 5 = .ok (.aload_n 0, 1) := by decide +kernel
theorem dX12_e_6 : decode cX12_e 6 = .ok (.iconst 0, 1) := by decide +kernel
theorem dX12_e_7 : decode cX12_e 7 = .ok (.putfield 346, 3) := by decide +kernel
theorem dX12_e_10 : decode cX12_e 10 = .ok (.aload_n 0, 1) := by decide +kernel
theorem dX12_e_11 : decode cX12_e 11 = .ok (.bipush 8, 2) := by decide +kernel
theorem dX12_e_13 : decode cX12_e 13 = .ok (.iconst 0, 1) := by decide +kernel
theorem dX12_e_14 : decode cX12_e 14 = .ok (.invokevirtual 349, 3) := by decide +kernel
theorem dX12_e_17 : decode cX12_e 17 = .ok (.iconst 1, 1) := by decide +kernel
theorem dX12_e_18 : decode cX12_e 18 = .ok (.istore_n 1, 1) := by decide +kernel
theorem dX12_e_19 : decode cX12_e 19 = .ok (.aload_n 0, 1) := by decide +kernel
theorem dX12_e_20 : decode cX12_e 20 = .ok (.invokevirtual 239, 3) := by decide +kernel
theorem dX12_e_23 : decode cX12_e 23 = .ok (.ifCond .eq 29, 3) := by decide +kernel
theorem dX12_e_26 : decode cX12_e 26 = .ok (.aload_n 0, 1) := by decide +kernel
theorem dX12_e_27 : decode cX12_e 27 = .ok (.getfield 343, 3) := by decide +kernel
theorem dX12_e_30 : decode cX12_e 30 = .ok (.ifCond .le 22, 3) := by decide +kernel
theorem dX12_e_33 : decode cX12_e 33 = .ok (.iload_n 1, 1) := by decide +kernel
theorem dX12_e_34 : decode cX12_e 34 = .ok (.ifCond .eq 10, 3) := by decide +kernel
theorem dX12_e_37 : decode cX12_e 37 = .ok (.aload_n 0, 1) := by decide +kernel
theorem dX12_e_38 : decode cX12_e 38 = .ok (.invokevirtual 352, 3) := by decide +kernel
theorem dX12_e_41 : decode cX12_e 41 = .ok (.goto 7, 3) := by decide +kernel
theorem dX12_e_44 : decode cX12_e 44 = .ok (.aload_n 0, 1) := by decide +kernel
theorem dX12_e_45 : decode cX12_e 45 = .ok (.invokevirtual 355, 3) := by decide +kernel
theorem dX12_e_48 : decode cX12_e 48 = .ok (.istore_n 1, 1) := by decide +kernel
theorem dX12_e_49 : decode cX12_e 49 = .ok (.goto (-30), 3) := by decide +kernel
theorem dX12_e_52 : decode cX12_e 52 = .ok (.return_, 1) := by decide +kernel
theorem dX12_wordHere_0 : decode cX12_wordHere 0 = .ok (.aload_n 0, 1) := by decide +kernel
theorem dX12_wordHere_1 : decode cX12_wordHere 1 = .ok (.getfield 337, 3) := by decide +kernel
theorem dX12_wordHere_4 : decode cX12_wordHere 4 = .ok (.ifCond .eq 65, 3) := by decide +kernel
theorem dX12_wordHere_7 : decode cX12_wordHere 7 = .ok (.aload_n 0, 1) := by decide +kernel
theorem dX12_wordHere_8 : decode cX12_wordHere 8 = .ok (.ldc2_w 175, 3) := by decide +kernel
theorem dX12_wordHere_11 : decode cX12_wordHere 11 = .ok (.invokevirtual 249, 3) := by decide +kernel
theorem dX12_wordHere_14 : decode cX12_wordHere 14 = .ok (.ifCond .eq 8, 3) := by decide +kernel
theorem dX12_wordHere_17 : decode cX12_wordHere 17 = .ok (.bipush 102, 2) := by decide +kernel
theorem dX12_wordHere_19 : decode cX12_wordHere 19 = .ok (.goto 49, 3) := by decide +kernel
theorem dX12_wordHere_22 : decode cX12_wordHere 22 = .ok (.aload_n 0, 1) := by decide +kernel
theorem dX12_wordHere_23 : decode cX12_wordHere 23 = .ok (.ldc2_w 153, 3) := by decide +kernel
theorem dX12_wordHere_26 : decode cX12_wordHere 26 = .ok (.invokevirtual 249, 3) := by decide +kernel
theorem dX12_wordHere_29 : decode cX12_wordHere 29 = .ok (.ifCond .eq 8, 3) := by decide +kernel
theorem dX12_wordHere_32 : decode cX12_wordHere 32 = .ok (.bipush 107, 2) := by decide +kernel
theorem dX12_wordHere_34 : decode cX12_wordHere 34 = .ok (.goto 34, 3) := by decide +kernel
theorem dX12_wordHere_37 : decode cX12_wordHere 37 = .ok (.aload_n 0, 1) := by decide +kernel
theorem dX12_wordHere_38 : decode cX12_wordHere 38 = .ok (.ldc2_w 177, 3) := by decide +kernel
theorem dX12_wordHere_41 : decode cX12_wordHere 41 = .ok (.invokevirtual 249, 3) := by decide +kernel
theorem dX12_wordHere_44 : decode cX12_wordHere 44 = .ok (.ifCond .eq 8, 3) := by decide +kernel
theorem dX12_wordHere_47 : decode cX12_wordHere 47 = .ok (.bipush 121, 2) := by decide +kernel
theorem dX12_wordHere_49 : decode cX12_wordHere 49 = .ok (.goto 19, 3) := by decide +kernel
theorem dX12_wordHere_52 : decode cX12_wordHere 52 = .ok (.aload_n 0, 1) := by decide +kernel
theorem dX12_wordHere_53 : decode cX12_wordHere 53 = .ok (.ldc2_w 179, 3) := by decide +kernel
theorem dX12_wordHere_56 : decode cX12_wordHere 56 = .ok (.invokevirtual 249, 3) := by decide +kernel
theorem dX12_wordHere_59 : decode cX12_wordHere 59 = .ok (.ifCond .eq 8, 3) := by decide +kernel
theorem dX12_wordHere_62 : decode cX12_wordHere 62 = .ok (.bipush 108, 2) := by decide +kernel
theorem dX12_wordHere_64 : decode cX12_wordHere 64 = .ok (.goto 4, 3) := by decide +kernel
theorem dX12_wordHere_67 : decode cX12_wordHere 67 = .ok (.iconst 0, 1) := by decide +kernel
theorem dX12_wordHere_68 : decode cX12_wordHere 68 = .ok (.ireturn, 1) := by decide +kernel
theorem dX12_wordHere_69 : decode cX12_wordHere 69 = .ok (.aload_n 0, 1) := by decide +kernel
theorem dX12_wordHere_70 : decode cX12_wordHere 70 = .ok (.ldc2_w 181, 3) := by decide +kernel
theorem dX12_wordHere_73 : decode cX12_wordHere 73 = .ok (.invokevirtual 249, 3) := by decide +kernel
theorem dX12_wordHere_76 : decode cX12_wordHere 76 = .ok (.ifCond .eq 6, 3) := by decide +kernel
theorem dX12_wordHere_79 : decode cX12_wordHere 79 = .ok (.bipush 115, 2) := by decide +kernel
theorem dX12_wordHere_81 : decode cX12_wordHere 81 = .ok (.ireturn, 1) := by decide +kernel
theorem dX12_wordHere_82 : decode cX12_wordHere 82 = .ok (.aload_n 0, 1) := by decide +kernel
theorem dX12_wordHere_83 : decode cX12_wordHere 83 = .ok (.ldc2_w 183, 3) := by decide +kernel
theorem dX12_wordHere_86 : decode cX12_wordHere 86 = .ok (.invokevirtual 249, 3) := by decide +kernel
theorem dX12_wordHere_89 : decode cX12_wordHere 89 = .ok (.ifCond .eq 6, 3) := by decide +kernel
theorem dX12_wordHere_92 : decode cX12_wordHere 92 = .ok (.bipush 101, 2) := by decide +kernel
theorem dX12_wordHere_94 : decode cX12_wordHere 94 = .ok (.ireturn, 1) := by decide +kernel
theorem dX12_wordHere_95 : decode cX12_wordHere 95 = .ok (.aload_n 0, 1) := by decide +kernel
theorem dX12_wordHere_96 : decode cX12_wordHere 96 = .ok (.ldc2_w 185, 3) := by decide +kernel
theorem dX12_wordHere_99 : decode cX12_wordHere 99 = .ok (.invokevirtual 249, 3) := by decide +kernel
theorem dX12_wordHere_102 : decode cX12_wordHere 102 = .ok (.ifCond .eq 6, 3) := by decide +kernel
theorem dX12_wordHere_105 : decode cX12_wordHere 105 = .ok (.bipush 109, 2) := by decide +kernel
theorem dX12_wordHere_107 : decode cX12_wordHere 107 = .ok (.ireturn, 1) := by decide +kernel
theorem dX12_wordHere_108 : decode cX12_wordHere 108 = .ok (.aload_n 0, 1) := by decide +kernel
theorem dX12_wordHere_109 : decode cX12_wordHere 109 = .ok (.ldc2_w 187, 3) := by decide +kernel
theorem dX12_wordHere_112 : decode cX12_wordHere 112 = .ok (.invokevirtual 249, 3) := by decide +kernel
theorem dX12_wordHere_115 : decode cX12_wordHere 115 = .ok (.ifCond .eq 6, 3) := by decide +kernel
theorem dX12_wordHere_118 : decode cX12_wordHere 118 = .ok (.bipush 113, 2) := by decide +kernel
theorem dX12_wordHere_120 : decode cX12_wordHere 120 = .ok (.ireturn, 1) := by decide +kernel
theorem dX12_wordHere_121 : decode cX12_wordHere 121 = .ok (.aload_n 0, 1) := by decide +kernel
theorem dX12_wordHere_122 : decode cX12_wordHere 122 = .ok (.ldc2_w 189, 3) := by decide +kernel
theorem dX12_wordHere_125 : decode cX12_wordHere 125 = .ok (.invokevirtual 249, 3) := by decide +kernel
theorem dX12_wordHere_128 : decode cX12_wordHere 128 = .ok (.ifCond .eq 8, 3) := by decide +kernel
theorem dX12_wordHere_131 : decode cX12_wordHere 131 = .ok (.bipush 97, 2) := by decide +kernel
theorem dX12_wordHere_133 : decode cX12_wordHere 133 = .ok (.goto 4, 3) := by decide +kernel
theorem dX12_wordHere_136 : decode cX12_wordHere 136 = .ok (.iconst 0, 1) := by decide +kernel
theorem dX12_wordHere_137 : decode cX12_wordHere 137 = .ok (.ireturn, 1) := by decide +kernel
theorem dX12_unit_0 : decode cX12_unit 0 = .ok (.aload_n 0, 1) := by decide +kernel
theorem dX12_unit_1 : decode cX12_unit 1 = .ok (.getfield 71, 3) := by decide +kernel
theorem dX12_unit_4 : decode cX12_unit 4 = .ok (.aload_n 0, 1) := by decide +kernel
theorem dX12_unit_5 : decode cX12_unit 5 = .ok (.getfield 343, 3) := by decide +kernel
theorem dX12_unit_8 : decode cX12_unit 8 = .ok (.iconst 1, 1) := by decide +kernel
theorem dX12_unit_9 : decode cX12_unit 9 = .ok (.isub, 1) := by decide +kernel
theorem dX12_unit_10 : decode cX12_unit 10 = .ok (.iaload, 1) := by decide +kernel
theorem dX12_unit_11 : decode cX12_unit 11 = .ok (.iconst 3, 1) := by decide +kernel
theorem dX12_unit_12 : decode cX12_unit 12 = .ok (.if_icmp .le 19, 3) := by decide +kernel
theorem dX12_unit_15 : decode cX12_unit 15 = .ok (.aload_n 0, 1) := by decide +kernel
theorem dX12_unit_16 : decode cX12_unit 16 = .ok (.getfield 71, 3) := by decide +kernel
theorem dX12_unit_19 : decode cX12_unit 19 = .ok (.aload_n 0, 1) := by decide +kernel
theorem dX12_unit_20 : decode cX12_unit 20 = .ok (.getfield 343, 3) := by decide +kernel
theorem dX12_unit_23 : decode cX12_unit 23 = .ok (.iconst 1, 1) := by decide +kernel
theorem dX12_unit_24 : decode cX12_unit 24 = .ok (.isub, 1) := by decide +kernel
theorem dX12_unit_25 : decode cX12_unit 25 = .ok (.iaload, 1) := by decide +kernel
theorem dX12_unit_26 : decode cX12_unit 26 = .ok (.bipush 7, 2) := by decide +kernel
theorem dX12_unit_28 : decode cX12_unit 28 = .ok (.if_icmp .lt 7, 3) := by decide +kernel
theorem dX12_unit_31 : decode cX12_unit 31 = .ok (.iconst 1, 1) := by decide +kernel
theorem dX12_unit_32 : decode cX12_unit 32 = .ok (.goto 4, 3) := by decide +kernel
theorem dX12_unit_35 : decode cX12_unit 35 = .ok (.iconst 0, 1) := by decide +kernel
theorem dX12_unit_36 : decode cX12_unit 36 = .ok (.istore_n 1, 1) := by decide +kernel
theorem dX12_unit_37 : decode cX12_unit 37 = .ok (.iload_n 1, 1) := by decide +kernel
theorem dX12_unit_38 : decode cX12_unit 38 = .ok (.ifCond .eq 17, 3) := by decide +kernel
theorem dX12_unit_41 : decode cX12_unit 41 = .ok (.aload_n 0, 1) := by decide +kernel
theorem dX12_unit_42 : decode cX12_unit 42 = .ok (.ldc2_w 195, 3) := by decide +kernel
theorem dX12_unit_45 : decode cX12_unit 45 = .ok (.invokevirtual 249, 3) := by decide +kernel
theorem dX12_unit_48 : decode cX12_unit 48 = .ok (.ifCond .eq 7, 3) := by decide +kernel
theorem dX12_unit_51 : decode cX12_unit 51 = .ok (.iconst 1, 1) := by decide +kernel
theorem dX12_unit_52 : decode cX12_unit 52 = .ok (.goto 4, 3) := by decide +kernel
theorem dX12_unit_55 : decode cX12_unit 55 = .ok (.iconst 0, 1) := by decide +kernel
theorem dX12_unit_56 : decode cX12_unit 56 = .ok (.istore_n 2, 1) := by decide +kernel
theorem dX12_unit_57 : decode cX12_unit 57 = .ok (.aload_n 0, 1) := by decide +kernel
theorem dX12_unit_58 : decode cX12_unit 58 = .ok (.bipush 40, 2) := by decide +kernel
theorem dX12_unit_60 : decode cX12_unit 60 = .ok (.invokevirtual 302, 3) := by decide +kernel
theorem dX12_unit_63 : decode cX12_unit 63 = .ok (.istore_n 3, 1) := by decide +kernel
theorem dX12_unit_64 : decode cX12_unit 64 = .ok (.aload_n 0, 1) := by decide +kernel
theorem dX12_unit_65 : decode cX12_unit 65 = .ok (.invokevirtual 358, 3) := by decide +kernel
theorem dX12_unit_68 : decode cX12_unit 68 = .ok (.istore 4, 2) := by decide +kernel
theorem dX12_unit_70 : decode cX12_unit 70 = .ok (.iload_n 2, 1) := by decide +kernel
theorem dX12_unit_71 : decode cX12_unit 71 = .ok (.ifCond .ne 29, 3) := by decide +kernel
theorem dX12_unit_74 : decode cX12_unit 74 = .ok (.iload 4, 2) := by decide +kernel
theorem dX12_unit_76 : decode cX12_unit 76 = .ok (.ifCond .ne 15, 3) := by decide +kernel
theorem dX12_unit_79 : decode cX12_unit 79 = .ok (.aload_n 0, 1) := by decide +kernel
theorem dX12_unit_80 : decode cX12_unit 80 = .ok (.getfield 211, 3) := by decide +kernel
theorem dX12_unit_83 : decode cX12_unit 83 = .ok (.iconst 4, 1) := by decide +kernel
theorem dX12_unit_84 : decode cX12_unit 84 = .ok (.if_icmp .eq 7, 3) := by decide +kernel
theorem dX12_unit_87 : decode cX12_unit 87 = .ok (.iload_n 3, 1) := by decide +kernel
theorem dX12_unit_88 : decode cX12_unit 88 = .ok (.ifCond .eq 29, 3) := by decide +kernel
theorem dX12_unit_91 : decode cX12_unit 91 = .ok (.aload_n 0, 1) := by decide +kernel
theorem dX12_unit_92 : decode cX12_unit 92 = .ok (.getfield 319, 3) := by decide +kernel
theorem dX12_unit_95 : decode cX12_unit 95 = .ok (.bipush 40, 2) := by decide +kernel
theorem dX12_unit_97 : decode cX12_unit 97 = .ok (.if_icmp .eq 20, 3) := by decide +kernel
theorem dX12_unit_100 : decode cX12_unit 100 = .ok (.iload_n 2, 1) := by decide +kernel
theorem dX12_unit_101 : decode cX12_unit 101 = .ok (.ifCond .ne 7, 3) := by decide +kernel
theorem dX12_unit_104 : decode cX12_unit 104 = .ok (.iload_n 3, 1) := by decide +kernel
theorem dX12_unit_105 : decode cX12_unit 105 = .ok (.ifCond .eq 16, 3) := by decide +kernel
theorem dX12_unit_108 : decode cX12_unit 108 = .ok (.aload_n 0, 1) := by decide +kernel
theorem dX12_unit_109 : decode cX12_unit 109 = .ok (.getfield 346, 3) := by decide +kernel
theorem dX12_unit_112 : decode cX12_unit 112 = .ok (.bipush 7, 2) := by decide +kernel
theorem dX12_unit_114 : decode cX12_unit 114 = .ok (.if_icmp .ne 7, 3) := by decide +kernel
theorem dX12_unit_117 : decode cX12_unit 117 = .ok (.aload_n 0, 1) := by decide +kernel
theorem dX12_unit_118 : decode cX12_unit 118 = .ok (.invokevirtual 246, 3) := by decide +kernel
theorem dX12_unit_121 : decode cX12_unit 121 = .ok (.aload_n 0, 1) := by decide +kernel
theorem dX12_unit_122 : decode cX12_unit 122 = .ok (.invokevirtual 239, 3) := by decide +kernel
theorem dX12_unit_125 : decode cX12_unit 125 = .ok (.ifCond .ne 5, 3) := by decide +kernel
theorem dX12_unit_128 : decode cX12_unit 128 = .ok (.iconst 1, 1) := by decide +kernel
theorem dX12_unit_129 : decode cX12_unit 129 = .ok (.ireturn, 1) := by decide +kernel
theorem dX12_unit_130 : decode cX12_unit 130 = .ok (.aload_n 0, 1) := by decide +kernel
theorem dX12_unit_131 : decode cX12_unit 131 = .ok (.dup, 1) := by decide +kernel
theorem dX12_unit_132 : decode cX12_unit 132 = .ok (.getfield 319, 3) := by decide +kernel
theorem dX12_unit_135 : decode cX12_unit 135 = .ok (.iload_n 2, 1) := by decide +kernel
theorem dX12_unit_136 : decode cX12_unit 136 = .ok (.ifCond .eq 7, 3) := by decide +kernel
theorem dX12_unit_139 : decode cX12_unit 139 = .ok (.iconst 0, 1) := by decide +kernel
theorem dX12_unit_140 : decode cX12_unit 140 = .ok (.goto 4, 3) := by decide +kernel
theorem dX12_unit_143 : decode cX12_unit 143 = .ok (.iconst 1, 1) := by decide +kernel
theorem dX12_unit_144 : decode cX12_unit 144 = .ok (.iadd, 1) := by decide +kernel
theorem dX12_unit_145 : decode cX12_unit 145 = .ok (.putfield 319, 3) := by decide +kernel
theorem dX12_unit_148 : decode cX12_unit 148 = .ok (.iload 4, 2) := by decide +kernel
theorem dX12_unit_150 : decode cX12_unit 150 = .ok (.ifCond .ne 10, 3) := by decide +kernel
theorem dX12_unit_153 : decode cX12_unit 153 = .ok (.aload_n 0, 1) := by decide +kernel
theorem dX12_unit_154 : decode cX12_unit 154 = .ok (.getfield 229, 3) := by decide +kernel
theorem dX12_unit_157 : decode cX12_unit 157 = .ok (.goto 4, 3) := by decide +kernel
theorem dX12_unit_160 : decode cX12_unit 160 = .ok (.iconst 0, 1) := by decide +kernel
theorem dX12_unit_161 : decode cX12_unit 161 = .ok (.istore 5, 2) := by decide +kernel
theorem dX12_unit_163 : decode cX12_unit 163 = .ok (.aload_n 0, 1) := by decide +kernel
theorem dX12_unit_164 : decode cX12_unit 164 = .ok (.invokevirtual 243, 3) := by decide +kernel
theorem dX12_unit_167 : decode cX12_unit 167 = .ok (.iload_n 2, 1) := by decide +kernel
theorem dX12_unit_168 : decode cX12_unit 168 = .ok (.ifCond .ne 7, 3) := by decide +kernel
theorem dX12_unit_171 : decode cX12_unit 171 = .ok (.iload_n 3, 1) := by decide +kernel
theorem dX12_unit_172 : decode cX12_unit 172 = .ok (.ifCond .eq 31, 3) := by decide +kernel
theorem dX12_unit_175 : decode cX12_unit 175 = .ok (.aload_n 0, 1) := by decide +kernel
theorem dX12_unit_176 : decode cX12_unit 176 = .ok (.iload_n 2, 1) := by decide +kernel
theorem dX12_unit_177 : decode cX12_unit 177 = .ok (.ifCond .eq 7, 3) := by decide +kernel
theorem dX12_unit_180 : decode cX12_unit 180 = .ok (.iconst 3, 1) := by decide +kernel
theorem dX12_unit_181 : decode cX12_unit 181 = .ok (.goto 5, 3) := by decide +kernel
theorem dX12_unit_184 : decode cX12_unit 184 = .ok (.bipush 7, 2) := by decide +kernel
theorem dX12_unit_186 : decode cX12_unit 186 = .ok (.bipush 126, 2) := by decide +kernel
theorem dX12_unit_188 : decode cX12_unit 188 = .ok (.invokevirtual 349, 3) := by decide +kernel
theorem dX12_unit_191 : decode cX12_unit 191 = .ok (.aload_n 0, 1) := by decide +kernel
theorem dX12_unit_192 : decode cX12_unit 192 = .ok (.dup, 1) := by decide +kernel
theorem dX12_unit_193 : decode cX12_unit 193 = .ok (.getfield 346, 3) := by decide +kernel
theorem dX12_unit_196 : decode cX12_unit 196 = .ok (.iconst 1, 1) := by decide +kernel
theorem dX12_unit_197 : decode cX12_unit 197 = .ok (.iadd, 1) := by decide +kernel
theorem dX12_unit_198 : decode cX12_unit 198 = .ok (.putfield 346, 3) := by decide +kernel
theorem dX12_unit_201 : decode cX12_unit 201 = .ok (.iconst 1, 1) := by decide +kernel
theorem dX12_unit_202 : decode cX12_unit 202 = .ok (.ireturn, 1) := by decide +kernel
theorem dX12_unit_203 : decode cX12_unit 203 = .ok (.iload 4, 2) := by decide +kernel
theorem dX12_unit_205 : decode cX12_unit 205 = .ok (.bipush 97, 2) := by decide +kernel
theorem dX12_unit_207 : decode cX12_unit 207 = .ok (.if_icmp .ne 21, 3) := by decide +kernel
theorem dX12_unit_210 : decode cX12_unit 210 = .ok (.aload_n 0, 1) := by decide +kernel
theorem dX12_unit_211 : decode cX12_unit 211 = .ok (.iconst 0, 1) := by decide +kernel
theorem dX12_unit_212 : decode cX12_unit 212 = .ok (.aload_n 0, 1) := by decide +kernel
theorem dX12_unit_213 : decode cX12_unit 213 = .ok (.getfield 20, 3) := by decide +kernel
theorem dX12_unit_216 : decode cX12_unit 216 = .ok (.aload_n 0, 1) := by decide +kernel
theorem dX12_unit_217 : decode cX12_unit 217 = .ok (.getfield 269, 3) := by decide +kernel
theorem dX12_unit_220 : decode cX12_unit 220 = .ok (.iaload, 1) := by decide +kernel
theorem dX12_unit_221 : decode cX12_unit 221 = .ok (.iconst 1, 1) := by decide +kernel
theorem dX12_unit_222 : decode cX12_unit 222 = .ok (.isub, 1) := by decide +kernel
theorem dX12_unit_223 : decode cX12_unit 223 = .ok (.invokevirtual 256, 3) := by decide +kernel
theorem dX12_unit_226 : decode cX12_unit 226 = .ok (.istore 5, 2) := by decide +kernel
theorem dX12_unit_228 : decode cX12_unit 228 = .ok (.aload_n 0, 1) := by decide +kernel
theorem dX12_unit_229 : decode cX12_unit 229 = .ok (.iload 4, 2) := by decide +kernel
theorem dX12_unit_231 : decode cX12_unit 231 = .ok (.ifCond .ne 8, 3) := by decide +kernel
theorem dX12_unit_234 : decode cX12_unit 234 = .ok (.bipush 110, 2) := by decide +kernel
theorem dX12_unit_236 : decode cX12_unit 236 = .ok (.goto 5, 3) := by decide +kernel
theorem dX12_unit_239 : decode cX12_unit 239 = .ok (.iload 4, 2) := by decide +kernel
theorem dX12_unit_241 : decode cX12_unit 241 = .ok (.iload 5, 2) := by decide +kernel
theorem dX12_unit_243 : decode cX12_unit 243 = .ok (.invokevirtual 361, 3) := by decide +kernel
theorem dX12_unit_246 : decode cX12_unit 246 = .ok (.iconst 0, 1) := by decide +kernel
theorem dX12_unit_247 : decode cX12_unit 247 = .ok (.ireturn, 1) := by decide +kernel
theorem dX12_rankHere_0 : decode cX12_rankHere 0 = .ok (.aload_n 0, 1) := by decide +kernel
theorem dX12_rankHere_1 : decode cX12_rankHere 1 = .ok (.ldc2_w 191, 3) := by decide +kernel
theorem dX12_rankHere_4 : decode cX12_rankHere 4 = .ok (.invokevirtual 249, 3) := by decide +kernel
theorem dX12_rankHere_7 : decode cX12_rankHere 7 = .ok (.ifCond .eq 5, 3) := by decide +kernel
theorem dX12_rankHere_10 : decode cX12_rankHere 10 = .ok (.iconst 2, 1) := by decide +kernel
theorem dX12_rankHere_11 : decode cX12_rankHere 11 = .ok (.ireturn, 1) := by decide +kernel
theorem dX12_rankHere_12 : decode cX12_rankHere 12 = .ok (.aload_n 0, 1) := by decide +kernel
theorem dX12_rankHere_13 : decode cX12_rankHere 13 = .ok (.ldc2_w 193, 3) := by decide +kernel
theorem dX12_rankHere_16 : decode cX12_rankHere 16 = .ok (.invokevirtual 249, 3) := by decide +kernel
theorem dX12_rankHere_19 : decode cX12_rankHere 19 = .ok (.ifCond .eq 5, 3) := by decide +kernel
theorem dX12_rankHere_22 : decode cX12_rankHere 22 = .ok (.iconst 1, 1) := by decide +kernel
theorem dX12_rankHere_23 : decode cX12_rankHere 23 = .ok (.ireturn, 1) := by decide +kernel
theorem dX12_rankHere_24 : decode cX12_rankHere 24 = .ok (.aload_n 0, 1) := by decide +kernel
theorem dX12_rankHere_25 : decode cX12_rankHere 25 = .ok (.bipush 60, 2) := by decide +kernel
theorem dX12_rankHere_27 : decode cX12_rankHere 27 = .ok (.invokevirtual 302, 3) := by decide +kernel
theorem dX12_rankHere_30 : decode cX12_rankHere 30 = .ok (.ifCond .ne 21, 3) := by decide +kernel
theorem dX12_rankHere_33 : decode cX12_rankHere 33 = .ok (.aload_n 0, 1) := by decide +kernel
theorem dX12_rankHere_34 : decode cX12_rankHere 34 = .ok (.bipush 62, 2) := by decide +kernel
theorem dX12_rankHere_36 : decode cX12_rankHere 36 = .ok (.invokevirtual 302, 3) := by decide +kernel
theorem dX12_rankHere_39 : decode cX12_rankHere 39 = .ok (.ifCond .ne 12, 3) := by decide +kernel
theorem dX12_rankHere_42 : decode cX12_rankHere 42 = .ok (.aload_n 0, 1) := by decide +kernel
theorem dX12_rankHere_43 : decode cX12_rankHere 43 = .ok (.bipush 61, 2) := by decide +kernel
theorem dX12_rankHere_45 : decode cX12_rankHere 45 = .ok (.invokevirtual 302, 3) := by decide +kernel
theorem dX12_rankHere_48 : decode cX12_rankHere 48 = .ok (.ifCond .eq 5, 3) := by decide +kernel
theorem dX12_rankHere_51 : decode cX12_rankHere 51 = .ok (.iconst 4, 1) := by decide +kernel
theorem dX12_rankHere_52 : decode cX12_rankHere 52 = .ok (.ireturn, 1) := by decide +kernel
theorem dX12_rankHere_53 : decode cX12_rankHere 53 = .ok (.aload_n 0, 1) := by decide +kernel
theorem dX12_rankHere_54 : decode cX12_rankHere 54 = .ok (.bipush 43, 2) := by decide +kernel
theorem dX12_rankHere_56 : decode cX12_rankHere 56 = .ok (.invokevirtual 302, 3) := by decide +kernel
theorem dX12_rankHere_59 : decode cX12_rankHere 59 = .ok (.ifCond .ne 12, 3) := by decide +kernel
theorem dX12_rankHere_62 : decode cX12_rankHere 62 = .ok (.aload_n 0, 1) := by decide +kernel
theorem dX12_rankHere_63 : decode cX12_rankHere 63 = .ok (.bipush 45, 2) := by decide +kernel
theorem dX12_rankHere_65 : decode cX12_rankHere 65 = .ok (.invokevirtual 302, 3) := by decide +kernel
theorem dX12_rankHere_68 : decode cX12_rankHere 68 = .ok (.ifCond .eq 5, 3) := by decide +kernel
theorem dX12_rankHere_71 : decode cX12_rankHere 71 = .ok (.iconst 5, 1) := by decide +kernel
theorem dX12_rankHere_72 : decode cX12_rankHere 72 = .ok (.ireturn, 1) := by decide +kernel
theorem dX12_rankHere_73 : decode cX12_rankHere 73 = .ok (.aload_n 0, 1) := by decide +kernel
theorem dX12_rankHere_74 : decode cX12_rankHere 74 = .ok (.bipush 42, 2) := by decide +kernel
theorem dX12_rankHere_76 : decode cX12_rankHere 76 = .ok (.invokevirtual 302, 3) := by decide +kernel
theorem dX12_rankHere_79 : decode cX12_rankHere 79 = .ok (.ifCond .eq 8, 3) := by decide +kernel
theorem dX12_rankHere_82 : decode cX12_rankHere 82 = .ok (.bipush 6, 2) := by decide +kernel
theorem dX12_rankHere_84 : decode cX12_rankHere 84 = .ok (.goto 4, 3) := by decide +kernel
theorem dX12_rankHere_87 : decode cX12_rankHere 87 = .ok (.iconst 0, 1) := by decide +kernel
theorem dX12_rankHere_88 : decode cX12_rankHere 88 = .ok (.ireturn, 1) := by decide +kernel
theorem dX12_isCompared_0 : decode cX12_isCompared 0 = .ok (.aload_n 0, 1) := by decide +kernel
theorem dX12_isCompared_1 : decode cX12_isCompared 1 = .ok (.getfield 343, 3) := by decide +kernel
theorem dX12_isCompared_4 : decode cX12_isCompared 4 = .ok (.iconst 1, 1) := by decide +kernel
theorem dX12_isCompared_5 : decode cX12_isCompared 5 = .ok (.isub, 1) := by decide +kernel
theorem dX12_isCompared_6 : decode cX12_isCompared 6 = .ok (.istore_n 1, 1) := by decide +kernel
theorem dX12_isCompared_7 : decode cX12_isCompared 7 = .ok (.aload_n 0, 1) := by decide +kernel
theorem dX12_isCompared_8 : decode cX12_isCompared 8 = .ok (.getfield 71, 3) := by decide +kernel
theorem dX12_isCompared_11 : decode cX12_isCompared 11 = .ok (.iload_n 1, 1) := by decide +kernel
theorem dX12_isCompared_12 : decode cX12_isCompared 12 = .ok (.iaload, 1) := by decide +kernel
theorem dX12_isCompared_13 : decode cX12_isCompared 13 = .ok (.iconst 5, 1) := by decide +kernel
theorem dX12_isCompared_14 : decode cX12_isCompared 14 = .ok (.if_icmp .eq 14, 3) := by decide +kernel
theorem dX12_isCompared_17 : decode cX12_isCompared 17 = .ok (.aload_n 0, 1) := by decide +kernel
theorem dX12_isCompared_18 : decode cX12_isCompared 18 = .ok (.getfield 71, 3) := by decide +kernel
theorem dX12_isCompared_21 : decode cX12_isCompared 21 = .ok (.iload_n 1, 1) := by decide +kernel
theorem dX12_isCompared_22 : decode cX12_isCompared 22 = .ok (.iaload, 1) := by decide +kernel
theorem dX12_isCompared_23 : decode cX12_isCompared 23 = .ok (.bipush 6, 2) := by decide +kernel
theorem dX12_isCompared_25 : decode cX12_isCompared 25 = .ok (.if_icmp .ne 9, 3) := by decide +kernel
theorem dX12_isCompared_28 : decode cX12_isCompared 28 = .ok (.iinc 1 (-1), 3) := by decide +kernel
theorem dX12_isCompared_31 : decode cX12_isCompared 31 = .ok (.goto (-24), 3) := by decide +kernel
theorem dX12_isCompared_34 : decode cX12_isCompared 34 = .ok (.aload_n 0, 1) := by decide +kernel
theorem dX12_isCompared_35 : decode cX12_isCompared 35 = .ok (.getfield 71, 3) := by decide +kernel
theorem dX12_isCompared_38 : decode cX12_isCompared 38 = .ok (.iload_n 1, 1) := by decide +kernel
theorem dX12_isCompared_39 : decode cX12_isCompared 39 = .ok (.iaload, 1) := by decide +kernel
theorem dX12_isCompared_40 : decode cX12_isCompared 40 = .ok (.iconst 4, 1) := by decide +kernel
theorem dX12_isCompared_41 : decode cX12_isCompared 41 = .ok (.if_icmp .ne 7, 3) := by decide +kernel
theorem dX12_isCompared_44 : decode cX12_isCompared 44 = .ok (.iconst 1, 1) := by decide +kernel
theorem dX12_isCompared_45 : decode cX12_isCompared 45 = .ok (.goto 4, 3) := by decide +kernel
theorem dX12_isCompared_48 : decode cX12_isCompared 48 = .ok (.iconst 0, 1) := by decide +kernel
theorem dX12_isCompared_49 : decode cX12_isCompared 49 = .ok (.ireturn, 1) := by decide +kernel
theorem dX12_behindUnit_0 : decode cX12_behindUnit 0 = .ok (.aload_n 0, 1) := by decide +kernel
theorem dX12_behindUnit_1 : decode cX12_behindUnit 1 = .ok (.invokevirtual 364, 3) := by decide +kernel
theorem dX12_behindUnit_4 : decode cX12_behindUnit 4 = .ok (.istore_n 1, 1) := by decide +kernel
theorem dX12_behindUnit_5 : decode cX12_behindUnit 5 = .ok (.iload_n 1, 1) := by decide +kernel
theorem dX12_behindUnit_6 : decode cX12_behindUnit 6 = .ok (.iconst 4, 1) := by decide +kernel
theorem dX12_behindUnit_7 : decode cX12_behindUnit 7 = .ok (.if_icmp .ne 16, 3) := by decide +kernel
theorem dX12_behindUnit_10 : decode cX12_behindUnit 10 = .ok (.aload_n 0, 1) := by decide +kernel
theorem dX12_behindUnit_11 : decode cX12_behindUnit 11 = .ok (.invokevirtual 367, 3) := by decide +kernel
theorem dX12_behindUnit_14 : decode cX12_behindUnit 14 = .ok (.ifCond .eq 9, 3) := by decide +kernel
theorem dX12_behindUnit_17 : decode cX12_behindUnit 17 = .ok (.aload_n 0, 1) := by decide +kernel
theorem dX12_behindUnit_18 : decode cX12_behindUnit 18 = .ok (.invokevirtual 246, 3) := by decide +kernel
theorem dX12_behindUnit_21 : decode cX12_behindUnit 21 = .ok (.iconst 1, 1) := by decide +kernel
theorem dX12_behindUnit_22 : decode cX12_behindUnit 22 = .ok (.ireturn, 1) := by decide +kernel
theorem dX12_behindUnit_23 : decode cX12_behindUnit 23 = .ok (.aload_n 0, 1) := by decide +kernel
theorem dX12_behindUnit_24 : decode cX12_behindUnit 24 = .ok (.getfield 71, 3) := by decide +kernel
theorem dX12_behindUnit_27 : decode cX12_behindUnit 27 = .ok (.aload_n 0, 1) := by decide +kernel
theorem dX12_behindUnit_28 : decode cX12_behindUnit 28 = .ok (.getfield 343, 3) := by decide +kernel
theorem dX12_behindUnit_31 : decode cX12_behindUnit 31 = .ok (.iconst 1, 1) := by decide +kernel
theorem dX12_behindUnit_32 : decode cX12_behindUnit 32 = .ok (.isub, 1) := by decide +kernel
theorem dX12_behindUnit_33 : decode cX12_behindUnit 33 = .ok (.iaload, 1) := by decide +kernel
theorem dX12_behindUnit_34 : decode cX12_behindUnit 34 = .ok (.bipush 6, 2) := by decide +kernel
theorem dX12_behindUnit_36 : decode cX12_behindUnit 36 = .ok (.if_icmp .gt 68, 3) := by decide +kernel
theorem dX12_behindUnit_39 : decode cX12_behindUnit 39 = .ok (.aload_n 0, 1) := by decide +kernel
theorem dX12_behindUnit_40 : decode cX12_behindUnit 40 = .ok (.getfield 71, 3) := by decide +kernel
theorem dX12_behindUnit_43 : decode cX12_behindUnit 43 = .ok (.aload_n 0, 1) := by decide +kernel
theorem dX12_behindUnit_44 : decode cX12_behindUnit 44 = .ok (.getfield 343, 3) := by decide +kernel
theorem dX12_behindUnit_47 : decode cX12_behindUnit 47 = .ok (.iconst 1, 1) := by decide +kernel
theorem dX12_behindUnit_48 : decode cX12_behindUnit 48 = .ok (.isub, 1) := by decide +kernel
theorem dX12_behindUnit_49 : decode cX12_behindUnit 49 = .ok (.iaload, 1) := by decide +kernel
theorem dX12_behindUnit_50 : decode cX12_behindUnit 50 = .ok (.iload_n 1, 1) := by decide +kernel
theorem dX12_behindUnit_51 : decode cX12_behindUnit 51 = .ok (.if_icmp .lt 53, 3) := by decide +kernel
theorem dX12_behindUnit_54 : decode cX12_behindUnit 54 = .ok (.aload_n 0, 1) := by decide +kernel
theorem dX12_behindUnit_55 : decode cX12_behindUnit 55 = .ok (.dup, 1) := by decide +kernel
theorem dX12_behindUnit_56 : decode cX12_behindUnit 56 = .ok (.getfield 343, 3) := by decide +kernel
theorem dX12_behindUnit_59 : decode cX12_behindUnit 59 = .ok (.iconst 1, 1) := by decide +kernel
theorem dX12_behindUnit_60 : decode cX12_behindUnit 60 = .ok (.isub, 1) := by decide +kernel
theorem dX12_behindUnit_61 : decode cX12_behindUnit 61 = .ok (.putfield 343, 3) := by decide +kernel
theorem dX12_behindUnit_64 : decode cX12_behindUnit 64 = .ok (.aload_n 0, 1) := by decide +kernel
theorem dX12_behindUnit_65 : decode cX12_behindUnit 65 = .ok (.getfield 71, 3) := by decide +kernel
theorem dX12_behindUnit_68 : decode cX12_behindUnit 68 = .ok (.aload_n 0, 1) := by decide +kernel
theorem dX12_behindUnit_69 : decode cX12_behindUnit 69 = .ok (.getfield 343, 3) := by decide +kernel
theorem dX12_behindUnit_72 : decode cX12_behindUnit 72 = .ok (.iaload, 1) := by decide +kernel
theorem dX12_behindUnit_73 : decode cX12_behindUnit 73 = .ok (.iconst 3, 1) := by decide +kernel
theorem dX12_behindUnit_74 : decode cX12_behindUnit 74 = .ok (.if_icmp .ne 13, 3) := by decide +kernel
theorem dX12_behindUnit_77 : decode cX12_behindUnit 77 = .ok (.aload_n 0, 1) := by decide +kernel
theorem dX12_behindUnit_78 : decode cX12_behindUnit 78 = .ok (.dup, 1) := by decide +kernel
theorem dX12_behindUnit_79 : decode cX12_behindUnit 79 = .ok (.getfield 346, 3) := by decide +kernel
theorem dX12_behindUnit_82 : decode cX12_behindUnit 82 = .ok (.iconst 1, 1) := by decide +kernel
theorem dX12_behindUnit_83 : decode cX12_behindUnit 83 = .ok (.isub, 1) := by decide +kernel
theorem dX12_behindUnit_84 : decode cX12_behindUnit 84 = .ok (.putfield 346, 3) := by decide +kernel
theorem dX12_behindUnit_87 : decode cX12_behindUnit 87 = .ok (.aload_n 0, 1) := by decide +kernel
theorem dX12_behindUnit_88 : decode cX12_behindUnit 88 = .ok (.aload_n 0, 1) := by decide +kernel
theorem dX12_behindUnit_89 : decode cX12_behindUnit 89 = .ok (.getfield 74, 3) := by decide +kernel
theorem dX12_behindUnit_92 : decode cX12_behindUnit 92 = .ok (.aload_n 0, 1) := by decide +kernel
theorem dX12_behindUnit_93 : decode cX12_behindUnit 93 = .ok (.getfield 343, 3) := by decide +kernel
theorem dX12_behindUnit_96 : decode cX12_behindUnit 96 = .ok (.iaload, 1) := by decide +kernel
theorem dX12_behindUnit_97 : decode cX12_behindUnit 97 = .ok (.iconst 0, 1) := by decide +kernel
theorem dX12_behindUnit_98 : decode cX12_behindUnit 98 = .ok (.invokevirtual 361, 3) := by decide +kernel
theorem dX12_behindUnit_101 : decode cX12_behindUnit 101 = .ok (.goto (-78), 3) := by decide +kernel
theorem dX12_behindUnit_104 : decode cX12_behindUnit 104 = .ok (.iload_n 1, 1) := by decide +kernel
theorem dX12_behindUnit_105 : decode cX12_behindUnit 105 = .ok (.ifCond .le 42, 3) := by decide +kernel
theorem dX12_behindUnit_108 : decode cX12_behindUnit 108 = .ok (.aload_n 0, 1) := by decide +kernel
theorem dX12_behindUnit_109 : decode cX12_behindUnit 109 = .ok (.iload_n 1, 1) := by decide +kernel
theorem dX12_behindUnit_110 : decode cX12_behindUnit 110 = .ok (.iload_n 1, 1) := by decide +kernel
theorem dX12_behindUnit_111 : decode cX12_behindUnit 111 = .ok (.iconst 2, 1) := by decide +kernel
theorem dX12_behindUnit_112 : decode cX12_behindUnit 112 = .ok (.if_icmp .ne 8, 3) := by decide +kernel
theorem dX12_behindUnit_115 : decode cX12_behindUnit 115 = .ok (.bipush 38, 2) := by decide +kernel
theorem dX12_behindUnit_117 : decode cX12_behindUnit 117 = .ok (.goto 21, 3) := by decide +kernel
theorem dX12_behindUnit_120 : decode cX12_behindUnit 120 = .ok (.iload_n 1, 1) := by decide +kernel
theorem dX12_behindUnit_121 : decode cX12_behindUnit 121 = .ok (.iconst 1, 1) := by decide +kernel
theorem dX12_behindUnit_122 : decode cX12_behindUnit 122 = .ok (.if_icmp .ne 8, 3) := by decide +kernel
theorem dX12_behindUnit_125 : decode cX12_behindUnit 125 = .ok (.bipush 124, 2) := by decide +kernel
theorem dX12_behindUnit_127 : decode cX12_behindUnit 127 = .ok (.goto 11, 3) := by decide +kernel
theorem dX12_behindUnit_130 : decode cX12_behindUnit 130 = .ok (.aload_n 0, 1) := by decide +kernel
theorem dX12_behindUnit_131 : decode cX12_behindUnit 131 = .ok (.aload_n 0, 1) := by decide +kernel
theorem dX12_behindUnit_132 : decode cX12_behindUnit 132 = .ok (.getfield 204, 3) := by decide +kernel
theorem dX12_behindUnit_135 : decode cX12_behindUnit 135 = .ok (.invokevirtual 207, 3) := by decide +kernel
theorem dX12_behindUnit_138 : decode cX12_behindUnit 138 = .ok (.invokevirtual 349, 3) := by decide +kernel
theorem dX12_behindUnit_141 : decode cX12_behindUnit 141 = .ok (.aload_n 0, 1) := by decide +kernel
theorem dX12_behindUnit_142 : decode cX12_behindUnit 142 = .ok (.invokevirtual 243, 3) := by decide +kernel
theorem dX12_behindUnit_145 : decode cX12_behindUnit 145 = .ok (.iconst 1, 1) := by decide +kernel
theorem dX12_behindUnit_146 : decode cX12_behindUnit 146 = .ok (.ireturn, 1) := by decide +kernel
theorem dX12_behindUnit_147 : decode cX12_behindUnit 147 = .ok (.aload_n 0, 1) := by decide +kernel
theorem dX12_behindUnit_148 : decode cX12_behindUnit 148 = .ok (.dup, 1) := by decide +kernel
theorem dX12_behindUnit_149 : decode cX12_behindUnit 149 = .ok (.getfield 343, 3) := by decide +kernel
theorem dX12_behindUnit_152 : decode cX12_behindUnit 152 = .ok (.iconst 1, 1) := by decide +kernel
theorem dX12_behindUnit_153 : decode cX12_behindUnit 153 = .ok (.isub, 1) := by decide +kernel
theorem dX12_behindUnit_154 : decode cX12_behindUnit 154 = .ok (.putfield 343, 3) := by decide +kernel
theorem dX12_behindUnit_157 : decode cX12_behindUnit 157 = .ok (.aload_n 0, 1) := by decide +kernel
theorem dX12_behindUnit_158 : decode cX12_behindUnit 158 = .ok (.getfield 71, 3) := by decide +kernel
theorem dX12_behindUnit_161 : decode cX12_behindUnit 161 = .ok (.aload_n 0, 1) := by decide +kernel
theorem dX12_behindUnit_162 : decode cX12_behindUnit 162 = .ok (.getfield 343, 3) := by decide +kernel
theorem dX12_behindUnit_165 : decode cX12_behindUnit 165 = .ok (.iaload, 1) := by decide +kernel
theorem dX12_behindUnit_166 : decode cX12_behindUnit 166 = .ok (.bipush 7, 2) := by decide +kernel
theorem dX12_behindUnit_168 : decode cX12_behindUnit 168 = .ok (.if_icmp .ne 23, 3) := by decide +kernel
theorem dX12_behindUnit_171 : decode cX12_behindUnit 171 = .ok (.aload_n 0, 1) := by decide +kernel
theorem dX12_behindUnit_172 : decode cX12_behindUnit 172 = .ok (.dup, 1) := by decide +kernel
theorem dX12_behindUnit_173 : decode cX12_behindUnit 173 = .ok (.getfield 346, 3) := by decide +kernel
theorem dX12_behindUnit_176 : decode cX12_behindUnit 176 = .ok (.iconst 1, 1) := by decide +kernel
theorem dX12_behindUnit_177 : decode cX12_behindUnit 177 = .ok (.isub, 1) := by decide +kernel
theorem dX12_behindUnit_178 : decode cX12_behindUnit 178 = .ok (.putfield 346, 3) := by decide +kernel
theorem dX12_behindUnit_181 : decode cX12_behindUnit 181 = .ok (.aload_n 0, 1) := by decide +kernel
theorem dX12_behindUnit_182 : decode cX12_behindUnit 182 = .ok (.aload_n 0, 1) := by decide +kernel
theorem dX12_behindUnit_183 : decode cX12_behindUnit 183 = .ok (.bipush 41, 2) := by decide +kernel
theorem dX12_behindUnit_185 : decode cX12_behindUnit 185 = .ok (.invokevirtual 302, 3) := by decide +kernel
theorem dX12_behindUnit_188 : decode cX12_behindUnit 188 = .ok (.invokevirtual 252, 3) := by decide +kernel
theorem dX12_behindUnit_191 : decode cX12_behindUnit 191 = .ok (.iconst 0, 1) := by decide +kernel
theorem dX12_behindUnit_192 : decode cX12_behindUnit 192 = .ok (.ireturn, 1) := by decide +kernel
theorem dX12_two_0 : decode cX12_two 0 = .ok (.iload_n 0, 1) := by decide +kernel
theorem dX12_two_1 : decode cX12_two 1 = .ok (.tableswitch 174 38 62 #[160, 174, 174, 174, 123, 115, 174, 119, 174, 174, 174, 174, 174, 174, 174, 174, 174, 174, 174, 174, 174, 174, 127, 149, 138], 115) := by decide +kernel
theorem dX12_two_116 : decode cX12_two 116 = .ok (.iload_n 1, 1) := by decide +kernel
theorem dX12_two_117 : decode cX12_two 117 = .ok (.iload_n 2, 1) := by decide +kernel
theorem dX12_two_118 : decode cX12_two 118 = .ok (.iadd, 1) := by decide +kernel
theorem dX12_two_119 : decode cX12_two 119 = .ok (.ireturn, 1) := by decide +kernel
theorem dX12_two_120 : decode cX12_two 120 = .ok (.iload_n 1, 1) := by decide +kernel
theorem dX12_two_121 : decode cX12_two 121 = .ok (.iload_n 2, 1) := by decide +kernel
theorem dX12_two_122 : decode cX12_two 122 = .ok (.isub, 1) := by decide +kernel
theorem dX12_two_123 : decode cX12_two 123 = .ok (.ireturn, 1) := by decide +kernel
theorem dX12_two_124 : decode cX12_two 124 = .ok (.iload_n 1, 1) := by decide +kernel
theorem dX12_two_125 : decode cX12_two 125 = .ok (.iload_n 2, 1) := by decide +kernel
theorem dX12_two_126 : decode cX12_two 126 = .ok (.imul, 1) := by decide +kernel
theorem dX12_two_127 : decode cX12_two 127 = .ok (.ireturn, 1) := by decide +kernel
theorem dX12_two_128 : decode cX12_two 128 = .ok (.iload_n 1, 1) := by decide +kernel
theorem dX12_two_129 : decode cX12_two 129 = .ok (.iload_n 2, 1) := by decide +kernel
theorem dX12_two_130 : decode cX12_two 130 = .ok (.if_icmp .ge 7, 3) := by decide +kernel
theorem dX12_two_133 : decode cX12_two 133 = .ok (.iconst 1, 1) := by decide +kernel
theorem dX12_two_134 : decode cX12_two 134 = .ok (.goto 4, 3) := by decide +kernel
theorem dX12_two_137 : decode cX12_two 137 = .ok (.iconst 0, 1) := by decide +kernel
theorem dX12_two_138 : decode cX12_two 138 = .ok (.ireturn, 1) := by decide +kernel
theorem dX12_two_139 : decode cX12_two 139 = .ok (.iload_n 1, 1) := by decide +kernel
theorem dX12_two_140 : decode cX12_two 140 = .ok (.iload_n 2, 1) := by decide +kernel
theorem dX12_two_141 : decode cX12_two 141 = .ok (.if_icmp .le 7, 3) := by decide +kernel
theorem dX12_two_144 : decode cX12_two 144 = .ok (.iconst 1, 1) := by decide +kernel
theorem dX12_two_145 : decode cX12_two 145 = .ok (.goto 4, 3) := by decide +kernel
theorem dX12_two_148 : decode cX12_two 148 = .ok (.iconst 0, 1) := by decide +kernel
theorem dX12_two_149 : decode cX12_two 149 = .ok (.ireturn, 1) := by decide +kernel
theorem dX12_two_150 : decode cX12_two 150 = .ok (.iload_n 1, 1) := by decide +kernel
theorem dX12_two_151 : decode cX12_two 151 = .ok (.iload_n 2, 1) := by decide +kernel
theorem dX12_two_152 : decode cX12_two 152 = .ok (.if_icmp .ne 7, 3) := by decide +kernel
theorem dX12_two_155 : decode cX12_two 155 = .ok (.iconst 1, 1) := by decide +kernel
theorem dX12_two_156 : decode cX12_two 156 = .ok (.goto 4, 3) := by decide +kernel
theorem dX12_two_159 : decode cX12_two 159 = .ok (.iconst 0, 1) := by decide +kernel
theorem dX12_two_160 : decode cX12_two 160 = .ok (.ireturn, 1) := by decide +kernel
theorem dX12_two_161 : decode cX12_two 161 = .ok (.iload_n 1, 1) := by decide +kernel
theorem dX12_two_162 : decode cX12_two 162 = .ok (.ifCond .eq 11, 3) := by decide +kernel
theorem dX12_two_165 : decode cX12_two 165 = .ok (.iload_n 2, 1) := by decide +kernel
theorem dX12_two_166 : decode cX12_two 166 = .ok (.ifCond .eq 7, 3) := by decide +kernel
theorem dX12_two_169 : decode cX12_two 169 = .ok (.iconst 1, 1) := by decide +kernel
theorem dX12_two_170 : decode cX12_two 170 = .ok (.goto 4, 3) := by decide +kernel
theorem dX12_two_173 : decode cX12_two 173 = .ok (.iconst 0, 1) := by decide +kernel
theorem dX12_two_174 : decode cX12_two 174 = .ok (.ireturn, 1) := by decide +kernel
theorem dX12_two_175 : decode cX12_two 175 = .ok (.iload_n 1, 1) := by decide +kernel
theorem dX12_two_176 : decode cX12_two 176 = .ok (.ifCond .ne 7, 3) := by decide +kernel
theorem dX12_two_179 : decode cX12_two 179 = .ok (.iload_n 2, 1) := by decide +kernel
theorem dX12_two_180 : decode cX12_two 180 = .ok (.ifCond .eq 7, 3) := by decide +kernel
theorem dX12_two_183 : decode cX12_two 183 = .ok (.iconst 1, 1) := by decide +kernel
theorem dX12_two_184 : decode cX12_two 184 = .ok (.goto 4, 3) := by decide +kernel
theorem dX12_two_187 : decode cX12_two 187 = .ok (.iconst 0, 1) := by decide +kernel
theorem dX12_two_188 : decode cX12_two 188 = .ok (.ireturn, 1) := by decide +kernel
theorem dX12_worth_0 : decode cX12_worth 0 = .ok (.iload_n 1, 1) := by decide +kernel
theorem dX12_worth_1 : decode cX12_worth 1 = .ok (.tableswitch 143 101 121 #[126, 101, 143, 143, 143, 143, 106, 116, 131, 99, 143, 143, 137, 143, 121, 143, 143, 143, 143, 143, 111], 99) := by decide +kernel
theorem dX12_worth_100 : decode cX12_worth 100 = .ok (.iload_n 2, 1) := by decide +kernel
theorem dX12_worth_101 : decode cX12_worth 101 = .ok (.ireturn, 1) := by decide +kernel
theorem dX12_worth_102 : decode cX12_worth 102 = .ok (.aload_n 0, 1) := by decide +kernel
theorem dX12_worth_103 : decode cX12_worth 103 = .ok (.getfield 370, 3) := by decide +kernel
theorem dX12_worth_106 : decode cX12_worth 106 = .ok (.ireturn, 1) := by decide +kernel
theorem dX12_worth_107 : decode cX12_worth 107 = .ok (.aload_n 0, 1) := by decide +kernel
theorem dX12_worth_108 : decode cX12_worth 108 = .ok (.getfield 373, 3) := by decide +kernel
theorem dX12_worth_111 : decode cX12_worth 111 = .ok (.ireturn, 1) := by decide +kernel
theorem dX12_worth_112 : decode cX12_worth 112 = .ok (.aload_n 0, 1) := by decide +kernel
theorem dX12_worth_113 : decode cX12_worth 113 = .ok (.getfield 376, 3) := by decide +kernel
theorem dX12_worth_116 : decode cX12_worth 116 = .ok (.ireturn, 1) := by decide +kernel
theorem dX12_worth_117 : decode cX12_worth 117 = .ok (.aload_n 0, 1) := by decide +kernel
theorem dX12_worth_118 : decode cX12_worth 118 = .ok (.getfield 379, 3) := by decide +kernel
theorem dX12_worth_121 : decode cX12_worth 121 = .ok (.ireturn, 1) := by decide +kernel
theorem dX12_worth_122 : decode cX12_worth 122 = .ok (.aload_n 0, 1) := by decide +kernel
theorem dX12_worth_123 : decode cX12_worth 123 = .ok (.invokevirtual 382, 3) := by decide +kernel
theorem dX12_worth_126 : decode cX12_worth 126 = .ok (.ireturn, 1) := by decide +kernel
theorem dX12_worth_127 : decode cX12_worth 127 = .ok (.aload_n 0, 1) := by decide +kernel
theorem dX12_worth_128 : decode cX12_worth 128 = .ok (.invokevirtual 385, 3) := by decide +kernel
theorem dX12_worth_131 : decode cX12_worth 131 = .ok (.ireturn, 1) := by decide +kernel
theorem dX12_worth_132 : decode cX12_worth 132 = .ok (.aload_n 0, 1) := by decide +kernel
theorem dX12_worth_133 : decode cX12_worth 133 = .ok (.iconst 1, 1) := by decide +kernel
theorem dX12_worth_134 : decode cX12_worth 134 = .ok (.invokevirtual 388, 3) := by decide +kernel
theorem dX12_worth_137 : decode cX12_worth 137 = .ok (.ireturn, 1) := by decide +kernel
theorem dX12_worth_138 : decode cX12_worth 138 = .ok (.aload_n 0, 1) := by decide +kernel
theorem dX12_worth_139 : decode cX12_worth 139 = .ok (.iconst 0, 1) := by decide +kernel
theorem dX12_worth_140 : decode cX12_worth 140 = .ok (.invokevirtual 388, 3) := by decide +kernel
theorem dX12_worth_143 : decode cX12_worth 143 = .ok (.ireturn, 1) := by decide +kernel
theorem dX12_worth_144 : decode cX12_worth 144 = .ok (.aload_n 0, 1) := by decide +kernel
theorem dX12_worth_145 : decode cX12_worth 145 = .ok (.getfield 89, 3) := by decide +kernel
theorem dX12_worth_148 : decode cX12_worth 148 = .ok (.iload_n 2, 1) := by decide +kernel
theorem dX12_worth_149 : decode cX12_worth 149 = .ok (.iaload, 1) := by decide +kernel
theorem dX12_worth_150 : decode cX12_worth 150 = .ok (.ireturn, 1) := by decide +kernel
theorem dX12_holds_0 : decode cX12_holds 0 = .ok (.iconst 0, 1) := by decide +kernel
theorem dX12_holds_1 : decode cX12_holds 1 = .ok (.istore_n 2, 1) := by decide +kernel
theorem dX12_holds_2 : decode cX12_holds 2 = .ok (.aload_n 0, 1) := by decide +kernel
theorem dX12_holds_3 : decode cX12_holds 3 = .ok (.getfield 80, 3) := by decide +kernel
theorem dX12_holds_6 : decode cX12_holds 6 = .ok (.iload_n 1, 1) := by decide +kernel
theorem dX12_holds_7 : decode cX12_holds 7 = .ok (.iaload, 1) := by decide +kernel
theorem dX12_holds_8 : decode cX12_holds 8 = .ok (.istore_n 3, 1) := by decide +kernel
theorem dX12_holds_9 : decode cX12_holds 9 = .ok (.iload_n 3, 1) := by decide +kernel
theorem dX12_holds_10 : decode cX12_holds 10 = .ok (.aload_n 0, 1) := by decide +kernel
theorem dX12_holds_11 : decode cX12_holds 11 = .ok (.getfield 83, 3) := by decide +kernel
theorem dX12_holds_14 : decode cX12_holds 14 = .ok (.iload_n 1, 1) := by decide +kernel
theorem dX12_holds_15 : decode cX12_holds 15 = .ok (.iaload, 1) := by decide +kernel
theorem dX12_holds_16 : decode cX12_holds 16 = .ok (.if_icmp .ge 113, 3) := by decide +kernel
theorem dX12_holds_19 : decode cX12_holds 19 = .ok (.aload_n 0, 1) := by decide +kernel
theorem dX12_holds_20 : decode cX12_holds 20 = .ok (.getfield 65, 3) := by decide +kernel
theorem dX12_holds_23 : decode cX12_holds 23 = .ok (.iload_n 3, 1) := by decide +kernel
theorem dX12_holds_24 : decode cX12_holds 24 = .ok (.iaload, 1) := by decide +kernel
theorem dX12_holds_25 : decode cX12_holds 25 = .ok (.istore 4, 2) := by decide +kernel
theorem dX12_holds_27 : decode cX12_holds 27 = .ok (.iload 4, 2) := by decide +kernel
theorem dX12_holds_29 : decode cX12_holds 29 = .ok (.bipush 126, 2) := by decide +kernel
theorem dX12_holds_31 : decode cX12_holds 31 = .ok (.if_icmp .ne 30, 3) := by decide +kernel
theorem dX12_holds_34 : decode cX12_holds 34 = .ok (.aload_n 0, 1) := by decide +kernel
theorem dX12_holds_35 : decode cX12_holds 35 = .ok (.getfield 77, 3) := by decide +kernel
theorem dX12_holds_38 : decode cX12_holds 38 = .ok (.iload_n 2, 1) := by decide +kernel
theorem dX12_holds_39 : decode cX12_holds 39 = .ok (.iconst 1, 1) := by decide +kernel
theorem dX12_holds_40 : decode cX12_holds 40 = .ok (.isub, 1) := by decide +kernel
theorem dX12_holds_41 : decode cX12_holds 41 = .ok (.aload_n 0, 1) := by decide +kernel
theorem dX12_holds_42 : decode cX12_holds 42 = .ok (.getfield 77, 3) := by decide +kernel
theorem dX12_holds_45 : decode cX12_holds 45 = .ok (.iload_n 2, 1) := by decide +kernel
theorem dX12_holds_46 : decode cX12_holds 46 = .ok (.iconst 1, 1) := by decide +kernel
theorem dX12_holds_47 : decode cX12_holds 47 = .ok (.isub, 1) := by decide +kernel
theorem dX12_holds_48 : decode cX12_holds 48 = .ok (.iaload, 1) := by decide +kernel
theorem dX12_holds_49 : decode cX12_holds 49 = .ok (.ifCond .ne 7, 3) := by decide +kernel
theorem dX12_holds_52 : decode cX12_holds 52 = .ok (.iconst 1, 1) := by decide +kernel
theorem dX12_holds_53 : decode cX12_holds 53 = .ok (.goto 4, 3) := by decide +kernel
theorem dX12_holds_56 : decode cX12_holds 56 = .ok (.iconst 0, 1) := by decide +kernel
theorem dX12_holds_57 : decode cX12_holds 57 = .ok (.iastore, 1) := by decide +kernel
theorem dX12_holds_58 : decode cX12_holds 58 = .ok (.goto 65, 3) := by decide +kernel
theorem dX12_holds_61 : decode cX12_holds 61 = .ok (.iload 4, 2) := by decide +kernel
theorem dX12_holds_63 : decode cX12_holds 63 = .ok (.invokestatic 214, 3) := by decide +kernel
theorem dX12_holds_66 : decode cX12_holds 66 = .ok (.ifCond .eq 27, 3) := by decide +kernel
theorem dX12_holds_69 : decode cX12_holds 69 = .ok (.aload_n 0, 1) := by decide +kernel
theorem dX12_holds_70 : decode cX12_holds 70 = .ok (.getfield 77, 3) := by decide +kernel
theorem dX12_holds_73 : decode cX12_holds 73 = .ok (.iload_n 2, 1) := by decide +kernel
theorem dX12_holds_74 : decode cX12_holds 74 = .ok (.aload_n 0, 1) := by decide +kernel
theorem dX12_holds_75 : decode cX12_holds 75 = .ok (.iload 4, 2) := by decide +kernel
theorem dX12_holds_77 : decode cX12_holds 77 = .ok (.aload_n 0, 1) := by decide +kernel
theorem dX12_holds_78 : decode cX12_holds 78 = .ok (.getfield 68, 3) := by decide +kernel
theorem dX12_holds_81 : decode cX12_holds 81 = .ok (.iload_n 3, 1) := by decide +kernel
theorem dX12_holds_82 : decode cX12_holds 82 = .ok (.iaload, 1) := by decide +kernel
theorem dX12_holds_83 : decode cX12_holds 83 = .ok (.invokevirtual 392, 3) := by decide +kernel
theorem dX12_holds_86 : decode cX12_holds 86 = .ok (.iastore, 1) := by decide +kernel
theorem dX12_holds_87 : decode cX12_holds 87 = .ok (.iinc 2 1, 3) := by decide +kernel
theorem dX12_holds_90 : decode cX12_holds 90 = .ok (.goto 33, 3) := by decide +kernel
theorem dX12_holds_93 : decode cX12_holds 93 = .ok (.iinc 2 (-1), 3) := by decide +kernel
theorem dX12_holds_96 : decode cX12_holds 96 = .ok (.aload_n 0, 1) := by decide +kernel
theorem dX12_holds_97 : decode cX12_holds 97 = .ok (.getfield 77, 3) := by decide +kernel
theorem dX12_holds_100 : decode cX12_holds 100 = .ok (.iload_n 2, 1) := by decide +kernel
theorem dX12_holds_101 : decode cX12_holds 101 = .ok (.iconst 1, 1) := by decide +kernel
theorem dX12_holds_102 : decode cX12_holds 102 = .ok (.isub, 1) := by decide +kernel
theorem dX12_holds_103 : decode cX12_holds 103 = .ok (.iload 4, 2) := by decide +kernel
theorem dX12_holds_105 : decode cX12_holds 105 = .ok (.aload_n 0, 1) := by decide +kernel
theorem dX12_holds_106 : decode cX12_holds 106 = .ok (.getfield 77, 3) := by decide +kernel
theorem dX12_holds_109 : decode cX12_holds 109 = .ok (.iload_n 2, 1) := by decide +kernel
theorem dX12_holds_110 : decode cX12_holds 110 = .ok (.iconst 1, 1) := by decide +kernel
theorem dX12_holds_111 : decode cX12_holds 111 = .ok (.isub, 1) := by decide +kernel
theorem dX12_holds_112 : decode cX12_holds 112 = .ok (.iaload, 1) := by decide +kernel
theorem dX12_holds_113 : decode cX12_holds 113 = .ok (.aload_n 0, 1) := by decide +kernel
theorem dX12_holds_114 : decode cX12_holds 114 = .ok (.getfield 77, 3) := by decide +kernel
theorem dX12_holds_117 : decode cX12_holds 117 = .ok (.iload_n 2, 1) := by decide +kernel
theorem dX12_holds_118 : decode cX12_holds 118 = .ok (.iaload, 1) := by decide +kernel
theorem dX12_holds_119 : decode cX12_holds 119 = .ok (.invokestatic 395, 3) := by decide +kernel
theorem dX12_holds_122 : decode cX12_holds 122 = .ok (.iastore, 1) := by decide +kernel
theorem dX12_holds_123 : decode cX12_holds 123 = .ok (.iinc 3 1, 3) := by decide +kernel
theorem dX12_holds_126 : decode cX12_holds 126 = .ok (.goto (-117), 3) := by decide +kernel
theorem dX12_holds_129 : decode cX12_holds 129 = .ok (.aload_n 0, 1) := by decide +kernel
theorem dX12_holds_130 : decode cX12_holds 130 = .ok (.getfield 77, 3) := by decide +kernel
theorem dX12_holds_133 : decode cX12_holds 133 = .ok (.iconst 0, 1) := by decide +kernel
theorem dX12_holds_134 : decode cX12_holds 134 = .ok (.iaload, 1) := by decide +kernel
theorem dX12_holds_135 : decode cX12_holds 135 = .ok (.ifCond .eq 7, 3) := by decide +kernel
theorem dX12_holds_138 : decode cX12_holds 138 = .ok (.iconst 1, 1) := by decide +kernel
theorem dX12_holds_139 : decode cX12_holds 139 = .ok (.goto 4, 3) := by decide +kernel
theorem dX12_holds_142 : decode cX12_holds 142 = .ok (.iconst 0, 1) := by decide +kernel
theorem dX12_holds_143 : decode cX12_holds 143 = .ok (.ireturn, 1) := by decide +kernel
theorem dX12_isIn_0 : decode cX12_isIn 0 = .ok (.iload_n 0, 1) := by decide +kernel
theorem dX12_isIn_1 : decode cX12_isIn 1 = .ok (.iload_n 1, 1) := by decide +kernel
theorem dX12_isIn_2 : decode cX12_isIn 2 = .ok (.if_icmp .lt 12, 3) := by decide +kernel
theorem dX12_isIn_5 : decode cX12_isIn 5 = .ok (.iload_n 0, 1) := by decide +kernel
theorem dX12_isIn_6 : decode cX12_isIn 6 = .ok (.iload_n 2, 1) := by decide +kernel
theorem dX12_isIn_7 : decode cX12_isIn 7 = .ok (.if_icmp .gt 7, 3) := by decide +kernel
theorem dX12_isIn_10 : decode cX12_isIn 10 = .ok (.iconst 1, 1) := by decide +kernel
theorem dX12_isIn_11 : decode cX12_isIn 11 = .ok (.goto 4, 3) := by decide +kernel
theorem dX12_isIn_14 : decode cX12_isIn 14 = .ok (.iconst 0, 1) := by decide +kernel
theorem dX12_isIn_15 : decode cX12_isIn 15 = .ok (.ireturn, 1) := by decide +kernel
theorem dX12_many_0 : decode cX12_many 0 = .ok (.aload_n 0, 1) := by decide +kernel
theorem dX12_many_1 : decode cX12_many 1 = .ok (.getfield 24, 3) := by decide +kernel
theorem dX12_many_4 : decode cX12_many 4 = .ok (.aload_n 0, 1) := by decide +kernel
theorem dX12_many_5 : decode cX12_many 5 = .ok (.getfield 269, 3) := by decide +kernel
theorem dX12_many_8 : decode cX12_many 8 = .ok (.iaload, 1) := by decide +kernel
theorem dX12_many_9 : decode cX12_many 9 = .ok (.ireturn, 1) := by decide +kernel
theorem dX12_pointMany_0 : decode cX12_pointMany 0 = .ok (.aload_n 0, 1) := by decide +kernel
theorem dX12_pointMany_1 : decode cX12_pointMany 1 = .ok (.getfield 20, 3) := by decide +kernel
theorem dX12_pointMany_4 : decode cX12_pointMany 4 = .ok (.aload_n 0, 1) := by decide +kernel
theorem dX12_pointMany_5 : decode cX12_pointMany 5 = .ok (.getfield 269, 3) := by decide +kernel
theorem dX12_pointMany_8 : decode cX12_pointMany 8 = .ok (.iaload, 1) := by decide +kernel
theorem dX12_pointMany_9 : decode cX12_pointMany 9 = .ok (.ireturn, 1) := by decide +kernel
theorem dX12_isFace_0 : decode cX12_isFace 0 = .ok (.iload_n 1, 1) := by decide +kernel
theorem dX12_isFace_1 : decode cX12_isFace 1 = .ok (.iconst 0, 1) := by decide +kernel
theorem dX12_isFace_2 : decode cX12_isFace 2 = .ok (.aload_n 0, 1) := by decide +kernel
theorem dX12_isFace_3 : decode cX12_isFace 3 = .ok (.invokevirtual 399, 3) := by decide +kernel
theorem dX12_isFace_6 : decode cX12_isFace 6 = .ok (.iconst 1, 1) := by decide +kernel
theorem dX12_isFace_7 : decode cX12_isFace 7 = .ok (.isub, 1) := by decide +kernel
theorem dX12_isFace_8 : decode cX12_isFace 8 = .ok (.invokestatic 402, 3) := by decide +kernel
theorem dX12_isFace_11 : decode cX12_isFace 11 = .ok (.ireturn, 1) := by decide +kernel
theorem dX12_isWhen_0 : decode cX12_isWhen 0 = .ok (.iload_n 0, 1) := by decide +kernel
theorem dX12_isWhen_1 : decode cX12_isWhen 1 = .ok (.iconst 0, 1) := by decide +kernel
theorem dX12_isWhen_2 : decode cX12_isWhen 2 = .ok (.bipush 60, 2) := by decide +kernel
theorem dX12_isWhen_4 : decode cX12_isWhen 4 = .ok (.invokestatic 402, 3) := by decide +kernel
theorem dX12_isWhen_7 : decode cX12_isWhen 7 = .ok (.ifCond .eq 17, 3) := by decide +kernel
theorem dX12_isWhen_10 : decode cX12_isWhen 10 = .ok (.iload_n 1, 1) := by decide +kernel
theorem dX12_isWhen_11 : decode cX12_isWhen 11 = .ok (.iconst 0, 1) := by decide +kernel
theorem dX12_isWhen_12 : decode cX12_isWhen 12 = .ok (.bipush 9, 2) := by decide +kernel
theorem dX12_isWhen_14 : decode cX12_isWhen 14 = .ok (.invokestatic 402, 3) := by decide +kernel
theorem dX12_isWhen_17 : decode cX12_isWhen 17 = .ok (.ifCond .eq 7, 3) := by decide +kernel
theorem dX12_isWhen_20 : decode cX12_isWhen 20 = .ok (.iconst 1, 1) := by decide +kernel
theorem dX12_isWhen_21 : decode cX12_isWhen 21 = .ok (.goto 4, 3) := by decide +kernel
theorem dX12_isWhen_24 : decode cX12_isWhen 24 = .ok (.iconst 0, 1) := by decide +kernel
theorem dX12_isWhen_25 : decode cX12_isWhen 25 = .ok (.ireturn, 1) := by decide +kernel
theorem dX12_isPrinterNo_0 : decode cX12_isPrinterNo 0 = .ok (.iload_n 0, 1) := by decide +kernel
theorem dX12_isPrinterNo_1 : decode cX12_isPrinterNo 1 = .ok (.iconst (-1), 1) := by decide +kernel
theorem dX12_isPrinterNo_2 : decode cX12_isPrinterNo 2 = .ok (.iconst 3, 1) := by decide +kernel
theorem dX12_isPrinterNo_3 : decode cX12_isPrinterNo 3 = .ok (.invokestatic 402, 3) := by decide +kernel
theorem dX12_isPrinterNo_6 : decode cX12_isPrinterNo 6 = .ok (.ireturn, 1) := by decide +kernel
theorem dX12_sizeOf_0 : decode cX12_sizeOf 0 = .ok (.iload_n 0, 1) := by decide +kernel
theorem dX12_sizeOf_1 : decode cX12_sizeOf 1 = .ok (.ifCond .ge 8, 3) := by decide +kernel
theorem dX12_sizeOf_4 : decode cX12_sizeOf 4 = .ok (.iload_n 0, 1) := by decide +kernel
theorem dX12_sizeOf_5 : decode cX12_sizeOf 5 = .ok (.ineg, 1) := by decide +kernel
theorem dX12_sizeOf_6 : decode cX12_sizeOf 6 = .ok (.goto 4, 3) := by decide +kernel
theorem dX12_sizeOf_9 : decode cX12_sizeOf 9 = .ok (.iload_n 0, 1) := by decide +kernel
theorem dX12_sizeOf_10 : decode cX12_sizeOf 10 = .ok (.ireturn, 1) := by decide +kernel
theorem dX12_measureOf_0 : decode cX12_measureOf 0 = .ok (.aload_n 0, 1) := by decide +kernel
theorem dX12_measureOf_1 : decode cX12_measureOf 1 = .ok (.getfield 36, 3) := by decide +kernel
theorem dX12_measureOf_4 : decode cX12_measureOf 4 = .ok (.bipush 16, 2) := by decide +kernel
theorem dX12_measureOf_6 : decode cX12_measureOf 6 = .ok (.aload_n 0, 1) := by decide +kernel
theorem dX12_measureOf_7 : decode cX12_measureOf 7 = .ok (.getfield 269, 3) := by decide +kernel
theorem dX12_measureOf_10 : decode cX12_measureOf 10 = .ok (.imul, 1) := by decide +kernel
theorem dX12_measureOf_11 : decode cX12_measureOf 11 = .ok (.iload_n 1, 1) := by decide +kernel
theorem dX12_measureOf_12 : decode cX12_measureOf 12 = .ok (.iadd, 1) := by decide +kernel
theorem dX12_measureOf_13 : decode cX12_measureOf 13 = .ok (.iaload, 1) := by decide +kernel
theorem dX12_measureOf_14 : decode cX12_measureOf 14 = .ok (.iload_n 3, 1) := by decide +kernel
theorem dX12_measureOf_15 : decode cX12_measureOf 15 = .ok (.imul, 1) := by decide +kernel
theorem dX12_measureOf_16 : decode cX12_measureOf 16 = .ok (.bipush 10, 2) := by decide +kernel
theorem dX12_measureOf_18 : decode cX12_measureOf 18 = .ok (.idiv, 1) := by decide +kernel
theorem dX12_measureOf_19 : decode cX12_measureOf 19 = .ok (.istore 4, 2) := by decide +kernel
theorem dX12_measureOf_21 : decode cX12_measureOf 21 = .ok (.aload_n 0, 1) := by decide +kernel
theorem dX12_measureOf_22 : decode cX12_measureOf 22 = .ok (.getfield 39, 3) := by decide +kernel
theorem dX12_measureOf_25 : decode cX12_measureOf 25 = .ok (.bipush 8, 2) := by decide +kernel
theorem dX12_measureOf_27 : decode cX12_measureOf 27 = .ok (.bipush 16, 2) := by decide +kernel
theorem dX12_measureOf_29 : decode cX12_measureOf 29 = .ok (.aload_n 0, 1) := by decide +kernel
theorem dX12_measureOf_30 : decode cX12_measureOf 30 = .ok (.getfield 269, 3) := by decide +kernel
theorem dX12_measureOf_33 : decode cX12_measureOf 33 = .ok (.imul, 1) := by decide +kernel
theorem dX12_measureOf_34 : decode cX12_measureOf 34 = .ok (.iload_n 1, 1) := by decide +kernel
theorem dX12_measureOf_35 : decode cX12_measureOf 35 = .ok (.iadd, 1) := by decide +kernel
theorem dX12_measureOf_36 : decode cX12_measureOf 36 = .ok (.imul, 1) := by decide +kernel
theorem dX12_measureOf_37 : decode cX12_measureOf 37 = .ok (.iload_n 2, 1) := by decide +kernel
theorem dX12_measureOf_38 : decode cX12_measureOf 38 = .ok (.iadd, 1) := by decide +kernel
theorem dX12_measureOf_39 : decode cX12_measureOf 39 = .ok (.iaload, 1) := by decide +kernel
theorem dX12_measureOf_40 : decode cX12_measureOf 40 = .ok (.iload_n 2, 1) := by decide +kernel
theorem dX12_measureOf_41 : decode cX12_measureOf 41 = .ok (.iconst 2, 1) := by decide +kernel
theorem dX12_measureOf_42 : decode cX12_measureOf 42 = .ok (.irem, 1) := by decide +kernel
theorem dX12_measureOf_43 : decode cX12_measureOf 43 = .ok (.ifCond .ne 8, 3) := by decide +kernel
theorem dX12_measureOf_46 : decode cX12_measureOf 46 = .ok (.iload 4, 2) := by decide +kernel
theorem dX12_measureOf_48 : decode cX12_measureOf 48 = .ok (.goto 6, 3) := by decide +kernel
theorem dX12_measureOf_51 : decode cX12_measureOf 51 = .ok (.iload 4, 2) := by decide +kernel
theorem dX12_measureOf_53 : decode cX12_measureOf 53 = .ok (.ineg, 1) := by decide +kernel
theorem dX12_measureOf_54 : decode cX12_measureOf 54 = .ok (.iadd, 1) := by decide +kernel
theorem dX12_measureOf_55 : decode cX12_measureOf 55 = .ok (.istore 5, 2) := by decide +kernel
theorem dX12_measureOf_57 : decode cX12_measureOf 57 = .ok (.iload 5, 2) := by decide +kernel
theorem dX12_measureOf_59 : decode cX12_measureOf 59 = .ok (.ifCond .ge 7, 3) := by decide +kernel
theorem dX12_measureOf_62 : decode cX12_measureOf 62 = .ok (.iconst 0, 1) := by decide +kernel
theorem dX12_measureOf_63 : decode cX12_measureOf 63 = .ok (.goto 17, 3) := by decide +kernel
theorem dX12_measureOf_66 : decode cX12_measureOf 66 = .ok (.iload 5, 2) := by decide +kernel
theorem dX12_measureOf_68 : decode cX12_measureOf 68 = .ok (.bipush 99, 2) := by decide +kernel
theorem dX12_measureOf_70 : decode cX12_measureOf 70 = .ok (.if_icmp .le 8, 3) := by decide +kernel
theorem dX12_measureOf_73 : decode cX12_measureOf 73 = .ok (.bipush 99, 2) := by decide +kernel
theorem dX12_measureOf_75 : decode cX12_measureOf 75 = .ok (.goto 5, 3) := by decide +kernel
theorem dX12_measureOf_78 : decode cX12_measureOf 78 = .ok (.iload 5, 2) := by decide +kernel
theorem dX12_measureOf_80 : decode cX12_measureOf 80 = .ok (.ireturn, 1) := by decide +kernel
theorem dX12_lit_0 : decode cX12_lit 0 = .ok (.iload_n 0, 1) := by decide +kernel
theorem dX12_lit_1 : decode cX12_lit 1 = .ok (.iload_n 1, 1) := by decide +kernel
theorem dX12_lit_2 : decode cX12_lit 2 = .ok (.iadd, 1) := by decide +kernel
theorem dX12_lit_3 : decode cX12_lit 3 = .ok (.bipush 99, 2) := by decide +kernel
theorem dX12_lit_5 : decode cX12_lit 5 = .ok (.if_icmp .le 8, 3) := by decide +kernel
theorem dX12_lit_8 : decode cX12_lit 8 = .ok (.bipush 99, 2) := by decide +kernel
theorem dX12_lit_10 : decode cX12_lit 10 = .ok (.goto 6, 3) := by decide +kernel
theorem dX12_lit_13 : decode cX12_lit 13 = .ok (.iload_n 0, 1) := by decide +kernel
theorem dX12_lit_14 : decode cX12_lit 14 = .ok (.iload_n 1, 1) := by decide +kernel
theorem dX12_lit_15 : decode cX12_lit 15 = .ok (.iadd, 1) := by decide +kernel
theorem dX12_lit_16 : decode cX12_lit 16 = .ok (.ireturn, 1) := by decide +kernel
theorem dX12_layMix_0 : decode cX12_layMix 0 = .ok (.iconst 0, 1) := by decide +kernel
theorem dX12_layMix_1 : decode cX12_layMix 1 = .ok (.istore 5, 2) := by decide +kernel
theorem dX12_layMix_3 : decode cX12_layMix 3 = .ok (.iload 5, 2) := by decide +kernel
theorem dX12_layMix_5 : decode cX12_layMix 5 = .ok (.aload_n 0, 1) := by decide +kernel
theorem dX12_layMix_6 : decode cX12_layMix 6 = .ok (.invokevirtual 406, 3) := by decide +kernel
theorem dX12_layMix_9 : decode cX12_layMix 9 = .ok (.if_icmp .ge 77, 3) := by decide +kernel
theorem dX12_layMix_12 : decode cX12_layMix 12 = .ok (.aload_n 0, 1) := by decide +kernel
theorem dX12_layMix_13 : decode cX12_layMix 13 = .ok (.iload_n 1, 1) := by decide +kernel
theorem dX12_layMix_14 : decode cX12_layMix 14 = .ok (.iload 5, 2) := by decide +kernel
theorem dX12_layMix_16 : decode cX12_layMix 16 = .ok (.iconst 0, 1) := by decide +kernel
theorem dX12_layMix_17 : decode cX12_layMix 17 = .ok (.invokevirtual 409, 3) := by decide +kernel
theorem dX12_layMix_20 : decode cX12_layMix 20 = .ok (.iload_n 3, 1) := by decide +kernel
theorem dX12_layMix_21 : decode cX12_layMix 21 = .ok (.imul, 1) := by decide +kernel
theorem dX12_layMix_22 : decode cX12_layMix 22 = .ok (.aload_n 0, 1) := by decide +kernel
theorem dX12_layMix_23 : decode cX12_layMix 23 = .ok (.iload_n 2, 1) := by decide +kernel
theorem dX12_layMix_24 : decode cX12_layMix 24 = .ok (.iload 5, 2) := by decide +kernel
theorem dX12_layMix_26 : decode cX12_layMix 26 = .ok (.iconst 0, 1) := by decide +kernel
theorem dX12_layMix_27 : decode cX12_layMix 27 = .ok (.invokevirtual 409, 3) := by decide +kernel
theorem dX12_layMix_30 : decode cX12_layMix 30 = .ok (.bipush 10, 2) := by decide +kernel
theorem dX12_layMix_32 : decode cX12_layMix 32 = .ok (.iload_n 3, 1) := by decide +kernel
theorem dX12_layMix_33 : decode cX12_layMix 33 = .ok (.isub, 1) := by decide +kernel
theorem dX12_layMix_34 : decode cX12_layMix 34 = .ok (.imul, 1) := by decide +kernel
theorem dX12_layMix_35 : decode cX12_layMix 35 = .ok (.iadd, 1) := by decide +kernel
theorem dX12_layMix_36 : decode cX12_layMix 36 = .ok (.bipush 10, 2) := by decide +kernel
theorem dX12_layMix_38 : decode cX12_layMix 38 = .ok (.idiv, 1) := by decide +kernel
theorem dX12_layMix_39 : decode cX12_layMix 39 = .ok (.istore 6, 2) := by decide +kernel
theorem dX12_layMix_41 : decode cX12_layMix 41 = .ok (.aload_n 0, 1) := by decide +kernel
theorem dX12_layMix_42 : decode cX12_layMix 42 = .ok (.getfield 89, 3) := by decide +kernel
theorem dX12_layMix_45 : decode cX12_layMix 45 = .ok (.iload 5, 2) := by decide +kernel
theorem dX12_layMix_47 : decode cX12_layMix 47 = .ok (.iload 4, 2) := by decide +kernel
theorem dX12_layMix_49 : decode cX12_layMix 49 = .ok (.ifCond .ge 8, 3) := by decide +kernel
theorem dX12_layMix_52 : decode cX12_layMix 52 = .ok (.iload 6, 2) := by decide +kernel
theorem dX12_layMix_54 : decode cX12_layMix 54 = .ok (.goto 25, 3) := by decide +kernel
theorem dX12_layMix_57 : decode cX12_layMix 57 = .ok (.iload 6, 2) := by decide +kernel
theorem dX12_layMix_59 : decode cX12_layMix 59 = .ok (.iload 6, 2) := by decide +kernel
theorem dX12_layMix_61 : decode cX12_layMix 61 = .ok (.aload_n 0, 1) := by decide +kernel
theorem dX12_layMix_62 : decode cX12_layMix 62 = .ok (.getfield 45, 3) := by decide +kernel
theorem dX12_layMix_65 : decode cX12_layMix 65 = .ok (.iconst 4, 1) := by decide +kernel
theorem dX12_layMix_66 : decode cX12_layMix 66 = .ok (.aload_n 0, 1) := by decide +kernel
theorem dX12_layMix_67 : decode cX12_layMix 67 = .ok (.getfield 269, 3) := by decide +kernel
theorem dX12_layMix_70 : decode cX12_layMix 70 = .ok (.imul, 1) := by decide +kernel
theorem dX12_layMix_71 : decode cX12_layMix 71 = .ok (.iload 4, 2) := by decide +kernel
theorem dX12_layMix_73 : decode cX12_layMix 73 = .ok (.iadd, 1) := by decide +kernel
theorem dX12_layMix_74 : decode cX12_layMix 74 = .ok (.iaload, 1) := by decide +kernel
theorem dX12_layMix_75 : decode cX12_layMix 75 = .ok (.iconst 1, 1) := by decide +kernel
theorem dX12_layMix_76 : decode cX12_layMix 76 = .ok (.iadd, 1) := by decide +kernel
theorem dX12_layMix_77 : decode cX12_layMix 77 = .ok (.irem, 1) := by decide +kernel
theorem dX12_layMix_78 : decode cX12_layMix 78 = .ok (.isub, 1) := by decide +kernel
theorem dX12_layMix_79 : decode cX12_layMix 79 = .ok (.iastore, 1) := by decide +kernel
theorem dX12_layMix_80 : decode cX12_layMix 80 = .ok (.iinc 5 1, 3) := by decide +kernel
theorem dX12_layMix_83 : decode cX12_layMix 83 = .ok (.goto (-80), 3) := by decide +kernel
theorem dX12_layMix_86 : decode cX12_layMix 86 = .ok (.return_, 1) := by decide +kernel
theorem dX12_putBeside_0 : decode cX12_putBeside 0 = .ok (.iconst 0, 1) := by decide +kernel
theorem dX12_putBeside_1 : decode cX12_putBeside 1 = .ok (.istore_n 1, 1) := by decide +kernel
theorem dX12_putBeside_2 : decode cX12_putBeside 2 = .ok (.iload_n 1, 1) := by decide +kernel
theorem dX12_putBeside_3 : decode cX12_putBeside 3 = .ok (.aload_n 0, 1) := by decide +kernel
theorem dX12_putBeside_4 : decode cX12_putBeside 4 = .ok (.invokevirtual 406, 3) := by decide +kernel
theorem dX12_putBeside_7 : decode cX12_putBeside 7 = .ok (.if_icmp .ge 21, 3) := by decide +kernel
theorem dX12_putBeside_10 : decode cX12_putBeside 10 = .ok (.aload_n 0, 1) := by decide +kernel
theorem dX12_putBeside_11 : decode cX12_putBeside 11 = .ok (.getfield 92, 3) := by decide +kernel
theorem dX12_putBeside_14 : decode cX12_putBeside 14 = .ok (.iload_n 1, 1) := by decide +kernel
theorem dX12_putBeside_15 : decode cX12_putBeside 15 = .ok (.aload_n 0, 1) := by decide +kernel
theorem dX12_putBeside_16 : decode cX12_putBeside 16 = .ok (.getfield 89, 3) := by decide +kernel
theorem dX12_putBeside_19 : decode cX12_putBeside 19 = .ok (.iload_n 1, 1) := by decide +kernel
theorem dX12_putBeside_20 : decode cX12_putBeside 20 = .ok (.iaload, 1) := by decide +kernel
theorem dX12_putBeside_21 : decode cX12_putBeside 21 = .ok (.iastore, 1) := by decide +kernel
theorem dX12_putBeside_22 : decode cX12_putBeside 22 = .ok (.iinc 1 1, 3) := by decide +kernel
theorem dX12_putBeside_25 : decode cX12_putBeside 25 = .ok (.goto (-23), 3) := by decide +kernel
theorem dX12_putBeside_28 : decode cX12_putBeside 28 = .ok (.return_, 1) := by decide +kernel
theorem dX12_farBeside_0 : decode cX12_farBeside 0 = .ok (.iconst 0, 1) := by decide +kernel
theorem dX12_farBeside_1 : decode cX12_farBeside 1 = .ok (.istore_n 1, 1) := by decide +kernel
theorem dX12_farBeside_2 : decode cX12_farBeside 2 = .ok (.iconst 0, 1) := by decide +kernel
theorem dX12_farBeside_3 : decode cX12_farBeside 3 = .ok (.istore_n 2, 1) := by decide +kernel
theorem dX12_farBeside_4 : decode cX12_farBeside 4 = .ok (.iload_n 2, 1) := by decide +kernel
theorem dX12_farBeside_5 : decode cX12_farBeside 5 = .ok (.aload_n 0, 1) := by decide +kernel
theorem dX12_farBeside_6 : decode cX12_farBeside 6 = .ok (.invokevirtual 406, 3) := by decide +kernel
theorem dX12_farBeside_9 : decode cX12_farBeside 9 = .ok (.if_icmp .ge 28, 3) := by decide +kernel
theorem dX12_farBeside_12 : decode cX12_farBeside 12 = .ok (.iload_n 1, 1) := by decide +kernel
theorem dX12_farBeside_13 : decode cX12_farBeside 13 = .ok (.aload_n 0, 1) := by decide +kernel
theorem dX12_farBeside_14 : decode cX12_farBeside 14 = .ok (.getfield 89, 3) := by decide +kernel
theorem dX12_farBeside_17 : decode cX12_farBeside 17 = .ok (.iload_n 2, 1) := by decide +kernel
theorem dX12_farBeside_18 : decode cX12_farBeside 18 = .ok (.iaload, 1) := by decide +kernel
theorem dX12_farBeside_19 : decode cX12_farBeside 19 = .ok (.aload_n 0, 1) := by decide +kernel
theorem dX12_farBeside_20 : decode cX12_farBeside 20 = .ok (.getfield 92, 3) := by decide +kernel
theorem dX12_farBeside_23 : decode cX12_farBeside 23 = .ok (.iload_n 2, 1) := by decide +kernel
theorem dX12_farBeside_24 : decode cX12_farBeside 24 = .ok (.iaload, 1) := by decide +kernel
theorem dX12_farBeside_25 : decode cX12_farBeside 25 = .ok (.isub, 1) := by decide +kernel
theorem dX12_farBeside_26 : decode cX12_farBeside 26 = .ok (.invokestatic 412, 3) := by decide +kernel
theorem dX12_farBeside_29 : decode cX12_farBeside 29 = .ok (.iadd, 1) := by decide +kernel
theorem dX12_farBeside_30 : decode cX12_farBeside 30 = .ok (.istore_n 1, 1) := by decide +kernel
theorem dX12_farBeside_31 : decode cX12_farBeside 31 = .ok (.iinc 2 1, 3) := by decide +kernel
theorem dX12_farBeside_34 : decode cX12_farBeside 34 = .ok (.goto (-30), 3) := by decide +kernel
theorem dX12_farBeside_37 : decode cX12_farBeside 37 = .ok (.iload_n 1, 1) := by decide +kernel
theorem dX12_farBeside_38 : decode cX12_farBeside 38 = .ok (.ireturn, 1) := by decide +kernel
theorem dX12_farLive_0 : decode cX12_farLive 0 = .ok (.iconst 0, 1) := by decide +kernel
theorem dX12_farLive_1 : decode cX12_farLive 1 = .ok (.istore 4, 2) := by decide +kernel
theorem dX12_farLive_3 : decode cX12_farLive 3 = .ok (.iconst 0, 1) := by decide +kernel
theorem dX12_farLive_4 : decode cX12_farLive 4 = .ok (.istore 5, 2) := by decide +kernel
theorem dX12_farLive_6 : decode cX12_farLive 6 = .ok (.iload 5, 2) := by decide +kernel
theorem dX12_farLive_8 : decode cX12_farLive 8 = .ok (.aload_n 0, 1) := by decide +kernel
theorem dX12_farLive_9 : decode cX12_farLive 9 = .ok (.invokevirtual 406, 3) := by decide +kernel
theorem dX12_farLive_12 : decode cX12_farLive 12 = .ok (.if_icmp .ge 37, 3) := by decide +kernel
theorem dX12_farLive_15 : decode cX12_farLive 15 = .ok (.iload 4, 2) := by decide +kernel
theorem dX12_farLive_17 : decode cX12_farLive 17 = .ok (.aload_n 0, 1) := by decide +kernel
theorem dX12_farLive_18 : decode cX12_farLive 18 = .ok (.iload_n 1, 1) := by decide +kernel
theorem dX12_farLive_19 : decode cX12_farLive 19 = .ok (.iload 5, 2) := by decide +kernel
theorem dX12_farLive_21 : decode cX12_farLive 21 = .ok (.iload_n 2, 1) := by decide +kernel
theorem dX12_farLive_22 : decode cX12_farLive 22 = .ok (.invokevirtual 409, 3) := by decide +kernel
theorem dX12_farLive_25 : decode cX12_farLive 25 = .ok (.iload_n 3, 1) := by decide +kernel
theorem dX12_farLive_26 : decode cX12_farLive 26 = .ok (.invokestatic 415, 3) := by decide +kernel
theorem dX12_farLive_29 : decode cX12_farLive 29 = .ok (.aload_n 0, 1) := by decide +kernel
theorem dX12_farLive_30 : decode cX12_farLive 30 = .ok (.getfield 89, 3) := by decide +kernel
theorem dX12_farLive_33 : decode cX12_farLive 33 = .ok (.iload 5, 2) := by decide +kernel
theorem dX12_farLive_35 : decode cX12_farLive 35 = .ok (.iaload, 1) := by decide +kernel
theorem dX12_farLive_36 : decode cX12_farLive 36 = .ok (.isub, 1) := by decide +kernel
theorem dX12_farLive_37 : decode cX12_farLive 37 = .ok (.invokestatic 412, 3) := by decide +kernel
theorem dX12_farLive_40 : decode cX12_farLive 40 = .ok (.iadd, 1) := by decide +kernel
theorem dX12_farLive_41 : decode cX12_farLive 41 = .ok (.istore 4, 2) := by decide +kernel
theorem dX12_farLive_43 : decode cX12_farLive 43 = .ok (.iinc 5 1, 3) := by decide +kernel
theorem dX12_farLive_46 : decode cX12_farLive 46 = .ok (.goto (-40), 3) := by decide +kernel
theorem dX12_farLive_49 : decode cX12_farLive 49 = .ok (.iload 4, 2) := by decide +kernel
theorem dX12_farLive_51 : decode cX12_farLive 51 = .ok (.ireturn, 1) := by decide +kernel
theorem dX12_isPass_0 : decode cX12_isPass 0 = .ok (.aload_n 0, 1) := by decide +kernel
theorem dX12_isPass_1 : decode cX12_isPass 1 = .ok (.aload_n 0, 1) := by decide +kernel
theorem dX12_isPass_2 : decode cX12_isPass 2 = .ok (.iload_n 1, 1) := by decide +kernel
theorem dX12_isPass_3 : decode cX12_isPass 3 = .ok (.iload_n 2, 1) := by decide +kernel
theorem dX12_isPass_4 : decode cX12_isPass 4 = .ok (.iload_n 3, 1) := by decide +kernel
theorem dX12_isPass_5 : decode cX12_isPass 5 = .ok (.invokevirtual 418, 3) := by decide +kernel
theorem dX12_isPass_8 : decode cX12_isPass 8 = .ok (.putfield 370, 3) := by decide +kernel
theorem dX12_isPass_11 : decode cX12_isPass 11 = .ok (.aload_n 0, 1) := by decide +kernel
theorem dX12_isPass_12 : decode cX12_isPass 12 = .ok (.aload_n 0, 1) := by decide +kernel
theorem dX12_isPass_13 : decode cX12_isPass 13 = .ok (.getfield 33, 3) := by decide +kernel
theorem dX12_isPass_16 : decode cX12_isPass 16 = .ok (.bipush 16, 2) := by decide +kernel
theorem dX12_isPass_18 : decode cX12_isPass 18 = .ok (.aload_n 0, 1) := by decide +kernel
theorem dX12_isPass_19 : decode cX12_isPass 19 = .ok (.getfield 269, 3) := by decide +kernel
theorem dX12_isPass_22 : decode cX12_isPass 22 = .ok (.imul, 1) := by decide +kernel
theorem dX12_isPass_23 : decode cX12_isPass 23 = .ok (.iload_n 1, 1) := by decide +kernel
theorem dX12_isPass_24 : decode cX12_isPass 24 = .ok (.iadd, 1) := by decide +kernel
theorem dX12_isPass_25 : decode cX12_isPass 25 = .ok (.iaload, 1) := by decide +kernel
theorem dX12_isPass_26 : decode cX12_isPass 26 = .ok (.putfield 373, 3) := by decide +kernel
theorem dX12_isPass_29 : decode cX12_isPass 29 = .ok (.aload_n 0, 1) := by decide +kernel
theorem dX12_isPass_30 : decode cX12_isPass 30 = .ok (.iload_n 2, 1) := by decide +kernel
theorem dX12_isPass_31 : decode cX12_isPass 31 = .ok (.putfield 376, 3) := by decide +kernel
theorem dX12_isPass_34 : decode cX12_isPass 34 = .ok (.aload_n 0, 1) := by decide +kernel
theorem dX12_isPass_35 : decode cX12_isPass 35 = .ok (.iload_n 3, 1) := by decide +kernel
theorem dX12_isPass_36 : decode cX12_isPass 36 = .ok (.putfield 379, 3) := by decide +kernel
theorem dX12_isPass_39 : decode cX12_isPass 39 = .ok (.aload_n 0, 1) := by decide +kernel
theorem dX12_isPass_40 : decode cX12_isPass 40 = .ok (.getfield 287, 3) := by decide +kernel
theorem dX12_isPass_43 : decode cX12_isPass 43 = .ok (.ifCond .eq 11, 3) := by decide +kernel
theorem dX12_isPass_46 : decode cX12_isPass 46 = .ok (.aload_n 0, 1) := by decide +kernel
theorem dX12_isPass_47 : decode cX12_isPass 47 = .ok (.iconst 0, 1) := by decide +kernel
theorem dX12_isPass_48 : decode cX12_isPass 48 = .ok (.invokevirtual 421, 3) := by decide +kernel
theorem dX12_isPass_51 : decode cX12_isPass 51 = .ok (.goto 17, 3) := by decide +kernel
theorem dX12_isPass_54 : decode cX12_isPass 54 = .ok (.aload_n 0, 1) := by decide +kernel
theorem dX12_isPass_55 : decode cX12_isPass 55 = .ok (.getfield 370, 3) := by decide +kernel
theorem dX12_isPass_58 : decode cX12_isPass 58 = .ok (.bipush 40, 2) := by decide +kernel
theorem dX12_isPass_60 : decode cX12_isPass 60 = .ok (.if_icmp .ge 7, 3) := by decide +kernel
theorem dX12_isPass_63 : decode cX12_isPass 63 = .ok (.iconst 1, 1) := by decide +kernel
theorem dX12_isPass_64 : decode cX12_isPass 64 = .ok (.goto 4, 3) := by decide +kernel
theorem dX12_isPass_67 : decode cX12_isPass 67 = .ok (.iconst 0, 1) := by decide +kernel
theorem dX12_isPass_68 : decode cX12_isPass 68 = .ok (.ireturn, 1) := by decide +kernel
theorem dX12_sumOf_0 : decode cX12_sumOf 0 = .ok (.iconst 0, 1) := by decide +kernel
theorem dX12_sumOf_1 : decode cX12_sumOf 1 = .ok (.istore_n 1, 1) := by decide +kernel
theorem dX12_sumOf_2 : decode cX12_sumOf 2 = .ok (.iconst 0, 1) := by decide +kernel
theorem dX12_sumOf_3 : decode cX12_sumOf 3 = .ok (.istore_n 2, 1) := by decide +kernel
theorem dX12_sumOf_4 : decode cX12_sumOf 4 = .ok (.iload_n 2, 1) := by decide +kernel
theorem dX12_sumOf_5 : decode cX12_sumOf 5 = .ok (.aload_n 0, 1) := by decide +kernel
theorem dX12_sumOf_6 : decode cX12_sumOf 6 = .ok (.invokevirtual 406, 3) := by decide +kernel
theorem dX12_sumOf_9 : decode cX12_sumOf 9 = .ok (.if_icmp .ge 18, 3) := by decide +kernel
theorem dX12_sumOf_12 : decode cX12_sumOf 12 = .ok (.iload_n 1, 1) := by decide +kernel
theorem dX12_sumOf_13 : decode cX12_sumOf 13 = .ok (.aload_n 0, 1) := by decide +kernel
theorem dX12_sumOf_14 : decode cX12_sumOf 14 = .ok (.getfield 89, 3) := by decide +kernel
theorem dX12_sumOf_17 : decode cX12_sumOf 17 = .ok (.iload_n 2, 1) := by decide +kernel
theorem dX12_sumOf_18 : decode cX12_sumOf 18 = .ok (.iaload, 1) := by decide +kernel
theorem dX12_sumOf_19 : decode cX12_sumOf 19 = .ok (.iadd, 1) := by decide +kernel
theorem dX12_sumOf_20 : decode cX12_sumOf 20 = .ok (.istore_n 1, 1) := by decide +kernel
theorem dX12_sumOf_21 : decode cX12_sumOf 21 = .ok (.iinc 2 1, 3) := by decide +kernel
theorem dX12_sumOf_24 : decode cX12_sumOf 24 = .ok (.goto (-20), 3) := by decide +kernel
theorem dX12_sumOf_27 : decode cX12_sumOf 27 = .ok (.iload_n 1, 1) := by decide +kernel
theorem dX12_sumOf_28 : decode cX12_sumOf 28 = .ok (.ireturn, 1) := by decide +kernel
theorem dX12_edgeOf_0 : decode cX12_edgeOf 0 = .ok (.iconst 0, 1) := by decide +kernel
theorem dX12_edgeOf_1 : decode cX12_edgeOf 1 = .ok (.istore_n 1, 1) := by decide +kernel
theorem dX12_edgeOf_2 : decode cX12_edgeOf 2 = .ok (.iconst 1, 1) := by decide +kernel
theorem dX12_edgeOf_3 : decode cX12_edgeOf 3 = .ok (.istore_n 2, 1) := by decide +kernel
theorem dX12_edgeOf_4 : decode cX12_edgeOf 4 = .ok (.iload_n 2, 1) := by decide +kernel
theorem dX12_edgeOf_5 : decode cX12_edgeOf 5 = .ok (.aload_n 0, 1) := by decide +kernel
theorem dX12_edgeOf_6 : decode cX12_edgeOf 6 = .ok (.invokevirtual 406, 3) := by decide +kernel
theorem dX12_edgeOf_9 : decode cX12_edgeOf 9 = .ok (.if_icmp .ge 30, 3) := by decide +kernel
theorem dX12_edgeOf_12 : decode cX12_edgeOf 12 = .ok (.iload_n 1, 1) := by decide +kernel
theorem dX12_edgeOf_13 : decode cX12_edgeOf 13 = .ok (.aload_n 0, 1) := by decide +kernel
theorem dX12_edgeOf_14 : decode cX12_edgeOf 14 = .ok (.getfield 89, 3) := by decide +kernel
theorem dX12_edgeOf_17 : decode cX12_edgeOf 17 = .ok (.iload_n 2, 1) := by decide +kernel
theorem dX12_edgeOf_18 : decode cX12_edgeOf 18 = .ok (.iaload, 1) := by decide +kernel
theorem dX12_edgeOf_19 : decode cX12_edgeOf 19 = .ok (.aload_n 0, 1) := by decide +kernel
theorem dX12_edgeOf_20 : decode cX12_edgeOf 20 = .ok (.getfield 89, 3) := by decide +kernel
theorem dX12_edgeOf_23 : decode cX12_edgeOf 23 = .ok (.iload_n 2, 1) := by decide +kernel
theorem dX12_edgeOf_24 : decode cX12_edgeOf 24 = .ok (.iconst 1, 1) := by decide +kernel
theorem dX12_edgeOf_25 : decode cX12_edgeOf 25 = .ok (.isub, 1) := by decide +kernel
theorem dX12_edgeOf_26 : decode cX12_edgeOf 26 = .ok (.iaload, 1) := by decide +kernel
theorem dX12_edgeOf_27 : decode cX12_edgeOf 27 = .ok (.isub, 1) := by decide +kernel
theorem dX12_edgeOf_28 : decode cX12_edgeOf 28 = .ok (.invokestatic 412, 3) := by decide +kernel
theorem dX12_edgeOf_31 : decode cX12_edgeOf 31 = .ok (.iadd, 1) := by decide +kernel
theorem dX12_edgeOf_32 : decode cX12_edgeOf 32 = .ok (.istore_n 1, 1) := by decide +kernel
theorem dX12_edgeOf_33 : decode cX12_edgeOf 33 = .ok (.iinc 2 1, 3) := by decide +kernel
theorem dX12_edgeOf_36 : decode cX12_edgeOf 36 = .ok (.goto (-32), 3) := by decide +kernel
theorem dX12_edgeOf_39 : decode cX12_edgeOf 39 = .ok (.iload_n 1, 1) := by decide +kernel
theorem dX12_edgeOf_40 : decode cX12_edgeOf 40 = .ok (.ireturn, 1) := by decide +kernel
theorem dX12_endOf_0 : decode cX12_endOf 0 = .ok (.aload_n 0, 1) := by decide +kernel
theorem dX12_endOf_1 : decode cX12_endOf 1 = .ok (.getfield 89, 3) := by decide +kernel
theorem dX12_endOf_4 : decode cX12_endOf 4 = .ok (.iconst 0, 1) := by decide +kernel
theorem dX12_endOf_5 : decode cX12_endOf 5 = .ok (.iaload, 1) := by decide +kernel
theorem dX12_endOf_6 : decode cX12_endOf 6 = .ok (.istore_n 2, 1) := by decide +kernel
theorem dX12_endOf_7 : decode cX12_endOf 7 = .ok (.iconst 1, 1) := by decide +kernel
theorem dX12_endOf_8 : decode cX12_endOf 8 = .ok (.istore_n 3, 1) := by decide +kernel
theorem dX12_endOf_9 : decode cX12_endOf 9 = .ok (.iload_n 3, 1) := by decide +kernel
theorem dX12_endOf_10 : decode cX12_endOf 10 = .ok (.aload_n 0, 1) := by decide +kernel
theorem dX12_endOf_11 : decode cX12_endOf 11 = .ok (.invokevirtual 406, 3) := by decide +kernel
theorem dX12_endOf_14 : decode cX12_endOf 14 = .ok (.if_icmp .ge 43, 3) := by decide +kernel
theorem dX12_endOf_17 : decode cX12_endOf 17 = .ok (.iload_n 1, 1) := by decide +kernel
theorem dX12_endOf_18 : decode cX12_endOf 18 = .ok (.ifCond .eq 16, 3) := by decide +kernel
theorem dX12_endOf_21 : decode cX12_endOf 21 = .ok (.aload_n 0, 1) := by decide +kernel
theorem dX12_endOf_22 : decode cX12_endOf 22 = .ok (.getfield 89, 3) := by decide +kernel
theorem dX12_endOf_25 : decode cX12_endOf 25 = .ok (.iload_n 3, 1) := by decide +kernel
theorem dX12_endOf_26 : decode cX12_endOf 26 = .ok (.iaload, 1) := by decide +kernel
theorem dX12_endOf_27 : decode cX12_endOf 27 = .ok (.iload_n 2, 1) := by decide +kernel
theorem dX12_endOf_28 : decode cX12_endOf 28 = .ok (.if_icmp .le 23, 3) := by decide +kernel
theorem dX12_endOf_31 : decode cX12_endOf 31 = .ok (.goto 13, 3) := by decide +kernel
theorem dX12_endOf_34 : decode cX12_endOf 34 = .ok (.aload_n 0, 1) := by decide +kernel
theorem dX12_endOf_35 : decode cX12_endOf 35 = .ok (.getfield 89, 3) := by decide +kernel
theorem dX12_endOf_38 : decode cX12_endOf 38 = .ok (.iload_n 3, 1) := by decide +kernel
theorem dX12_endOf_39 : decode cX12_endOf 39 = .ok (.iaload, 1) := by decide +kernel
theorem dX12_endOf_40 : decode cX12_endOf 40 = .ok (.iload_n 2, 1) := by decide +kernel
theorem dX12_endOf_41 : decode cX12_endOf 41 = .ok (.if_icmp .ge 10, 3) := by decide +kernel
theorem dX12_endOf_44 : decode cX12_endOf 44 = .ok (.aload_n 0, 1) := by decide +kernel
theorem dX12_endOf_45 : decode cX12_endOf 45 = .ok (.getfield 89, 3) := by decide +kernel
theorem dX12_endOf_48 : decode cX12_endOf 48 = .ok (.iload_n 3, 1) := by decide +kernel
theorem dX12_endOf_49 : decode cX12_endOf 49 = .ok (.iaload, 1) := by decide +kernel
theorem dX12_endOf_50 : decode cX12_endOf 50 = .ok (.istore_n 2, 1) := by decide +kernel
theorem dX12_endOf_51 : decode cX12_endOf 51 = .ok (.iinc 3 1, 3) := by decide +kernel
theorem dX12_endOf_54 : decode cX12_endOf 54 = .ok (.goto (-45), 3) := by decide +kernel
theorem dX12_endOf_57 : decode cX12_endOf 57 = .ok (.iload_n 2, 1) := by decide +kernel
theorem dX12_endOf_58 : decode cX12_endOf 58 = .ok (.ireturn, 1) := by decide +kernel
theorem dX12_face_0 : decode cX12_face 0 = .ok (.aload_n 0, 1) := by decide +kernel
theorem dX12_face_1 : decode cX12_face 1 = .ok (.iload_n 1, 1) := by decide +kernel
theorem dX12_face_2 : decode cX12_face 2 = .ok (.invokevirtual 424, 3) := by decide +kernel
theorem dX12_face_5 : decode cX12_face 5 = .ok (.ifCond .eq 37, 3) := by decide +kernel
theorem dX12_face_8 : decode cX12_face 8 = .ok (.iload_n 2, 1) := by decide +kernel
theorem dX12_face_9 : decode cX12_face 9 = .ok (.iconst 0, 1) := by decide +kernel
theorem dX12_face_10 : decode cX12_face 10 = .ok (.aload_n 0, 1) := by decide +kernel
theorem dX12_face_11 : decode cX12_face 11 = .ok (.invokevirtual 406, 3) := by decide +kernel
theorem dX12_face_14 : decode cX12_face 14 = .ok (.iconst 1, 1) := by decide +kernel
theorem dX12_face_15 : decode cX12_face 15 = .ok (.isub, 1) := by decide +kernel
theorem dX12_face_16 : decode cX12_face 16 = .ok (.invokestatic 402, 3) := by decide +kernel
theorem dX12_face_19 : decode cX12_face 19 = .ok (.ifCond .eq 23, 3) := by decide +kernel
theorem dX12_face_22 : decode cX12_face 22 = .ok (.iload_n 3, 1) := by decide +kernel
theorem dX12_face_23 : decode cX12_face 23 = .ok (.iconst 0, 1) := by decide +kernel
theorem dX12_face_24 : decode cX12_face 24 = .ok (.bipush 60, 2) := by decide +kernel
theorem dX12_face_26 : decode cX12_face 26 = .ok (.invokestatic 402, 3) := by decide +kernel
theorem dX12_face_29 : decode cX12_face 29 = .ok (.ifCond .eq 13, 3) := by decide +kernel
theorem dX12_face_32 : decode cX12_face 32 = .ok (.aload_n 0, 1) := by decide +kernel
theorem dX12_face_33 : decode cX12_face 33 = .ok (.iload_n 1, 1) := by decide +kernel
theorem dX12_face_34 : decode cX12_face 34 = .ok (.iload_n 2, 1) := by decide +kernel
theorem dX12_face_35 : decode cX12_face 35 = .ok (.iload_n 3, 1) := by decide +kernel
theorem dX12_face_36 : decode cX12_face 36 = .ok (.invokevirtual 409, 3) := by decide +kernel
theorem dX12_face_39 : decode cX12_face 39 = .ok (.goto 4, 3) := by decide +kernel
theorem dX12_face_42 : decode cX12_face 42 = .ok (.iconst (-1), 1) := by decide +kernel
theorem dX12_face_43 : decode cX12_face 43 = .ok (.ireturn, 1) := by decide +kernel
theorem dX12_far_0 : decode cX12_far 0 = .ok (.aload_n 0, 1) := by decide +kernel
theorem dX12_far_1 : decode cX12_far 1 = .ok (.iload_n 1, 1) := by decide +kernel
theorem dX12_far_2 : decode cX12_far 2 = .ok (.invokevirtual 424, 3) := by decide +kernel
theorem dX12_far_5 : decode cX12_far 5 = .ok (.ifCond .eq 32, 3) := by decide +kernel
theorem dX12_far_8 : decode cX12_far 8 = .ok (.aload_n 0, 1) := by decide +kernel
theorem dX12_far_9 : decode cX12_far 9 = .ok (.iload_n 3, 1) := by decide +kernel
theorem dX12_far_10 : decode cX12_far 10 = .ok (.invokevirtual 424, 3) := by decide +kernel
theorem dX12_far_13 : decode cX12_far 13 = .ok (.ifCond .eq 24, 3) := by decide +kernel
theorem dX12_far_16 : decode cX12_far 16 = .ok (.iload_n 2, 1) := by decide +kernel
theorem dX12_far_17 : decode cX12_far 17 = .ok (.iconst 0, 1) := by decide +kernel
theorem dX12_far_18 : decode cX12_far 18 = .ok (.bipush 60, 2) := by decide +kernel
theorem dX12_far_20 : decode cX12_far 20 = .ok (.invokestatic 402, 3) := by decide +kernel
theorem dX12_far_23 : decode cX12_far 23 = .ok (.ifCond .eq 14, 3) := by decide +kernel
theorem dX12_far_26 : decode cX12_far 26 = .ok (.iload 4, 2) := by decide +kernel
theorem dX12_far_28 : decode cX12_far 28 = .ok (.iconst 0, 1) := by decide +kernel
theorem dX12_far_29 : decode cX12_far 29 = .ok (.bipush 60, 2) := by decide +kernel
theorem dX12_far_31 : decode cX12_far 31 = .ok (.invokestatic 402, 3) := by decide +kernel
theorem dX12_far_34 : decode cX12_far 34 = .ok (.ifCond .ne 5, 3) := by decide +kernel
theorem dX12_far_37 : decode cX12_far 37 = .ok (.iconst (-1), 1) := by decide +kernel
theorem dX12_far_38 : decode cX12_far 38 = .ok (.ireturn, 1) := by decide +kernel
theorem dX12_far_39 : decode cX12_far 39 = .ok (.iconst 0, 1) := by decide +kernel
theorem dX12_far_40 : decode cX12_far 40 = .ok (.istore 5, 2) := by decide +kernel
theorem dX12_far_42 : decode cX12_far 42 = .ok (.iconst 0, 1) := by decide +kernel
theorem dX12_far_43 : decode cX12_far 43 = .ok (.istore 6, 2) := by decide +kernel
theorem dX12_far_45 : decode cX12_far 45 = .ok (.iload 6, 2) := by decide +kernel
theorem dX12_far_47 : decode cX12_far 47 = .ok (.aload_n 0, 1) := by decide +kernel
theorem dX12_far_48 : decode cX12_far 48 = .ok (.invokevirtual 406, 3) := by decide +kernel
theorem dX12_far_51 : decode cX12_far 51 = .ok (.if_icmp .ge 35, 3) := by decide +kernel
theorem dX12_far_54 : decode cX12_far 54 = .ok (.iload 5, 2) := by decide +kernel
theorem dX12_far_56 : decode cX12_far 56 = .ok (.aload_n 0, 1) := by decide +kernel
theorem dX12_far_57 : decode cX12_far 57 = .ok (.iload_n 1, 1) := by decide +kernel
theorem dX12_far_58 : decode cX12_far 58 = .ok (.iload 6, 2) := by decide +kernel
theorem dX12_far_60 : decode cX12_far 60 = .ok (.iload_n 2, 1) := by decide +kernel
theorem dX12_far_61 : decode cX12_far 61 = .ok (.invokevirtual 409, 3) := by decide +kernel
theorem dX12_far_64 : decode cX12_far 64 = .ok (.aload_n 0, 1) := by decide +kernel
theorem dX12_far_65 : decode cX12_far 65 = .ok (.iload_n 3, 1) := by decide +kernel
theorem dX12_far_66 : decode cX12_far 66 = .ok (.iload 6, 2) := by decide +kernel
theorem dX12_far_68 : decode cX12_far 68 = .ok (.iload 4, 2) := by decide +kernel
theorem dX12_far_70 : decode cX12_far 70 = .ok (.invokevirtual 409, 3) := by decide +kernel
theorem dX12_far_73 : decode cX12_far 73 = .ok (.isub, 1) := by decide +kernel
theorem dX12_far_74 : decode cX12_far 74 = .ok (.invokestatic 412, 3) := by decide +kernel
theorem dX12_far_77 : decode cX12_far 77 = .ok (.iadd, 1) := by decide +kernel
theorem dX12_far_78 : decode cX12_far 78 = .ok (.istore 5, 2) := by decide +kernel
theorem dX12_far_80 : decode cX12_far 80 = .ok (.iinc 6 1, 3) := by decide +kernel
theorem dX12_far_83 : decode cX12_far 83 = .ok (.goto (-38), 3) := by decide +kernel
theorem dX12_far_86 : decode cX12_far 86 = .ok (.iload 5, 2) := by decide +kernel
theorem dX12_far_88 : decode cX12_far 88 = .ok (.ireturn, 1) := by decide +kernel
theorem dX12_isPassOf_0 : decode cX12_isPassOf 0 = .ok (.aload_n 0, 1) := by decide +kernel
theorem dX12_isPassOf_1 : decode cX12_isPassOf 1 = .ok (.iload_n 2, 1) := by decide +kernel
theorem dX12_isPassOf_2 : decode cX12_isPassOf 2 = .ok (.iload_n 2, 1) := by decide +kernel
theorem dX12_isPassOf_3 : decode cX12_isPassOf 3 = .ok (.bipush 10, 2) := by decide +kernel
theorem dX12_isPassOf_5 : decode cX12_isPassOf 5 = .ok (.iconst (-1), 1) := by decide +kernel
theorem dX12_isPassOf_6 : decode cX12_isPassOf 6 = .ok (.invokevirtual 427, 3) := by decide +kernel
theorem dX12_isPassOf_9 : decode cX12_isPassOf 9 = .ok (.aload_n 0, 1) := by decide +kernel
theorem dX12_isPassOf_10 : decode cX12_isPassOf 10 = .ok (.iload_n 1, 1) := by decide +kernel
theorem dX12_isPassOf_11 : decode cX12_isPassOf 11 = .ok (.iload_n 3, 1) := by decide +kernel
theorem dX12_isPassOf_12 : decode cX12_isPassOf 12 = .ok (.iload 4, 2) := by decide +kernel
theorem dX12_isPassOf_14 : decode cX12_isPassOf 14 = .ok (.invokevirtual 431, 3) := by decide +kernel
theorem dX12_isPassOf_17 : decode cX12_isPassOf 17 = .ok (.ireturn, 1) := by decide +kernel
theorem dX12_passes_0 : decode cX12_passes 0 = .ok (.aload_n 0, 1) := by decide +kernel
theorem dX12_passes_1 : decode cX12_passes 1 = .ok (.iload_n 1, 1) := by decide +kernel
theorem dX12_passes_2 : decode cX12_passes 2 = .ok (.invokevirtual 424, 3) := by decide +kernel
theorem dX12_passes_5 : decode cX12_passes 5 = .ok (.ifCond .eq 20, 3) := by decide +kernel
theorem dX12_passes_8 : decode cX12_passes 8 = .ok (.aload_n 0, 1) := by decide +kernel
theorem dX12_passes_9 : decode cX12_passes 9 = .ok (.iload_n 2, 1) := by decide +kernel
theorem dX12_passes_10 : decode cX12_passes 10 = .ok (.invokevirtual 424, 3) := by decide +kernel
theorem dX12_passes_13 : decode cX12_passes 13 = .ok (.ifCond .eq 12, 3) := by decide +kernel
theorem dX12_passes_16 : decode cX12_passes 16 = .ok (.iload_n 3, 1) := by decide +kernel
theorem dX12_passes_17 : decode cX12_passes 17 = .ok (.iload 4, 2) := by decide +kernel
theorem dX12_passes_19 : decode cX12_passes 19 = .ok (.invokestatic 434, 3) := by decide +kernel
theorem dX12_passes_22 : decode cX12_passes 22 = .ok (.ifCond .ne 7, 3) := by decide +kernel
theorem dX12_passes_25 : decode cX12_passes 25 = .ok (.iconst (-1), 1) := by decide +kernel
theorem dX12_passes_26 : decode cX12_passes 26 = .ok (.goto 20, 3) := by decide +kernel
theorem dX12_passes_29 : decode cX12_passes 29 = .ok (.aload_n 0, 1) := by decide +kernel
theorem dX12_passes_30 : decode cX12_passes 30 = .ok (.iload_n 1, 1) := by decide +kernel
theorem dX12_passes_31 : decode cX12_passes 31 = .ok (.iload_n 2, 1) := by decide +kernel
theorem dX12_passes_32 : decode cX12_passes 32 = .ok (.iload_n 3, 1) := by decide +kernel
theorem dX12_passes_33 : decode cX12_passes 33 = .ok (.iload 4, 2) := by decide +kernel
theorem dX12_passes_35 : decode cX12_passes 35 = .ok (.invokevirtual 438, 3) := by decide +kernel
theorem dX12_passes_38 : decode cX12_passes 38 = .ok (.ifCond .eq 7, 3) := by decide +kernel
theorem dX12_passes_41 : decode cX12_passes 41 = .ok (.iconst 1, 1) := by decide +kernel
theorem dX12_passes_42 : decode cX12_passes 42 = .ok (.goto 4, 3) := by decide +kernel
theorem dX12_passes_45 : decode cX12_passes 45 = .ok (.iconst 0, 1) := by decide +kernel
theorem dX12_passes_46 : decode cX12_passes 46 = .ok (.ireturn, 1) := by decide +kernel
theorem dX12_isMix_0 : decode cX12_isMix 0 = .ok (.aload_n 0, 1) := by decide +kernel
theorem dX12_isMix_1 : decode cX12_isMix 1 = .ok (.iload_n 1, 1) := by decide +kernel
theorem dX12_isMix_2 : decode cX12_isMix 2 = .ok (.invokevirtual 424, 3) := by decide +kernel
theorem dX12_isMix_5 : decode cX12_isMix 5 = .ok (.ifCond .eq 30, 3) := by decide +kernel
theorem dX12_isMix_8 : decode cX12_isMix 8 = .ok (.aload_n 0, 1) := by decide +kernel
theorem dX12_isMix_9 : decode cX12_isMix 9 = .ok (.iload_n 2, 1) := by decide +kernel
theorem dX12_isMix_10 : decode cX12_isMix 10 = .ok (.invokevirtual 424, 3) := by decide +kernel
theorem dX12_isMix_13 : decode cX12_isMix 13 = .ok (.ifCond .eq 22, 3) := by decide +kernel
theorem dX12_isMix_16 : decode cX12_isMix 16 = .ok (.iload_n 1, 1) := by decide +kernel
theorem dX12_isMix_17 : decode cX12_isMix 17 = .ok (.iload_n 2, 1) := by decide +kernel
theorem dX12_isMix_18 : decode cX12_isMix 18 = .ok (.if_icmp .eq 17, 3) := by decide +kernel
theorem dX12_isMix_21 : decode cX12_isMix 21 = .ok (.iload_n 3, 1) := by decide +kernel
theorem dX12_isMix_22 : decode cX12_isMix 22 = .ok (.iconst 0, 1) := by decide +kernel
theorem dX12_isMix_23 : decode cX12_isMix 23 = .ok (.bipush 10, 2) := by decide +kernel
theorem dX12_isMix_25 : decode cX12_isMix 25 = .ok (.invokestatic 402, 3) := by decide +kernel
theorem dX12_isMix_28 : decode cX12_isMix 28 = .ok (.ifCond .eq 7, 3) := by decide +kernel
theorem dX12_isMix_31 : decode cX12_isMix 31 = .ok (.iconst 1, 1) := by decide +kernel
theorem dX12_isMix_32 : decode cX12_isMix 32 = .ok (.goto 4, 3) := by decide +kernel
theorem dX12_isMix_35 : decode cX12_isMix 35 = .ok (.iconst 0, 1) := by decide +kernel
theorem dX12_isMix_36 : decode cX12_isMix 36 = .ok (.ireturn, 1) := by decide +kernel
theorem dX12_mix_0 : decode cX12_mix 0 = .ok (.aload_n 0, 1) := by decide +kernel
theorem dX12_mix_1 : decode cX12_mix 1 = .ok (.iload_n 1, 1) := by decide +kernel
theorem dX12_mix_2 : decode cX12_mix 2 = .ok (.iload_n 2, 1) := by decide +kernel
theorem dX12_mix_3 : decode cX12_mix 3 = .ok (.iload_n 3, 1) := by decide +kernel
theorem dX12_mix_4 : decode cX12_mix 4 = .ok (.invokevirtual 442, 3) := by decide +kernel
theorem dX12_mix_7 : decode cX12_mix 7 = .ok (.ifCond .eq 26, 3) := by decide +kernel
theorem dX12_mix_10 : decode cX12_mix 10 = .ok (.iload 4, 2) := by decide +kernel
theorem dX12_mix_12 : decode cX12_mix 12 = .ok (.invokestatic 445, 3) := by decide +kernel
theorem dX12_mix_15 : decode cX12_mix 15 = .ok (.ifCond .eq 18, 3) := by decide +kernel
theorem dX12_mix_18 : decode cX12_mix 18 = .ok (.iload 5, 2) := by decide +kernel
theorem dX12_mix_20 : decode cX12_mix 20 = .ok (.iconst 0, 1) := by decide +kernel
theorem dX12_mix_21 : decode cX12_mix 21 = .ok (.aload_n 0, 1) := by decide +kernel
theorem dX12_mix_22 : decode cX12_mix 22 = .ok (.invokevirtual 406, 3) := by decide +kernel
theorem dX12_mix_25 : decode cX12_mix 25 = .ok (.iconst 1, 1) := by decide +kernel
theorem dX12_mix_26 : decode cX12_mix 26 = .ok (.isub, 1) := by decide +kernel
theorem dX12_mix_27 : decode cX12_mix 27 = .ok (.invokestatic 402, 3) := by decide +kernel
theorem dX12_mix_30 : decode cX12_mix 30 = .ok (.ifCond .ne 5, 3) := by decide +kernel
theorem dX12_mix_33 : decode cX12_mix 33 = .ok (.iconst (-1), 1) := by decide +kernel
theorem dX12_mix_34 : decode cX12_mix 34 = .ok (.ireturn, 1) := by decide +kernel
theorem dX12_mix_35 : decode cX12_mix 35 = .ok (.aload_n 0, 1) := by decide +kernel
theorem dX12_mix_36 : decode cX12_mix 36 = .ok (.iload_n 1, 1) := by decide +kernel
theorem dX12_mix_37 : decode cX12_mix 37 = .ok (.iload_n 2, 1) := by decide +kernel
theorem dX12_mix_38 : decode cX12_mix 38 = .ok (.iload_n 3, 1) := by decide +kernel
theorem dX12_mix_39 : decode cX12_mix 39 = .ok (.iload 4, 2) := by decide +kernel
theorem dX12_mix_41 : decode cX12_mix 41 = .ok (.invokevirtual 427, 3) := by decide +kernel
theorem dX12_mix_44 : decode cX12_mix 44 = .ok (.aload_n 0, 1) := by decide +kernel
theorem dX12_mix_45 : decode cX12_mix 45 = .ok (.getfield 89, 3) := by decide +kernel
theorem dX12_mix_48 : decode cX12_mix 48 = .ok (.iload 5, 2) := by decide +kernel
theorem dX12_mix_50 : decode cX12_mix 50 = .ok (.iaload, 1) := by decide +kernel
theorem dX12_mix_51 : decode cX12_mix 51 = .ok (.ireturn, 1) := by decide +kernel
theorem dX12_both_0 : decode cX12_both 0 = .ok (.aload_n 0, 1) := by decide +kernel
theorem dX12_both_1 : decode cX12_both 1 = .ok (.iload_n 1, 1) := by decide +kernel
theorem dX12_both_2 : decode cX12_both 2 = .ok (.iload_n 2, 1) := by decide +kernel
theorem dX12_both_3 : decode cX12_both 3 = .ok (.iload_n 3, 1) := by decide +kernel
theorem dX12_both_4 : decode cX12_both 4 = .ok (.invokevirtual 442, 3) := by decide +kernel
theorem dX12_both_7 : decode cX12_both 7 = .ok (.ifCond .eq 13, 3) := by decide +kernel
theorem dX12_both_10 : decode cX12_both 10 = .ok (.iload 4, 2) := by decide +kernel
theorem dX12_both_12 : decode cX12_both 12 = .ok (.iload 5, 2) := by decide +kernel
theorem dX12_both_14 : decode cX12_both 14 = .ok (.invokestatic 434, 3) := by decide +kernel
theorem dX12_both_17 : decode cX12_both 17 = .ok (.ifCond .ne 5, 3) := by decide +kernel
theorem dX12_both_20 : decode cX12_both 20 = .ok (.iconst (-1), 1) := by decide +kernel
theorem dX12_both_21 : decode cX12_both 21 = .ok (.ireturn, 1) := by decide +kernel
theorem dX12_both_22 : decode cX12_both 22 = .ok (.aload_n 0, 1) := by decide +kernel
theorem dX12_both_23 : decode cX12_both 23 = .ok (.iload_n 1, 1) := by decide +kernel
theorem dX12_both_24 : decode cX12_both 24 = .ok (.iload_n 2, 1) := by decide +kernel
theorem dX12_both_25 : decode cX12_both 25 = .ok (.iload_n 3, 1) := by decide +kernel
theorem dX12_both_26 : decode cX12_both 26 = .ok (.iconst (-1), 1) := by decide +kernel
theorem dX12_both_27 : decode cX12_both 27 = .ok (.invokevirtual 427, 3) := by decide +kernel
theorem dX12_both_30 : decode cX12_both 30 = .ok (.aload_n 0, 1) := by decide +kernel
theorem dX12_both_31 : decode cX12_both 31 = .ok (.iload_n 1, 1) := by decide +kernel
theorem dX12_both_32 : decode cX12_both 32 = .ok (.iload 4, 2) := by decide +kernel
theorem dX12_both_34 : decode cX12_both 34 = .ok (.iload 5, 2) := by decide +kernel
theorem dX12_both_36 : decode cX12_both 36 = .ok (.invokevirtual 431, 3) := by decide +kernel
theorem dX12_both_39 : decode cX12_both 39 = .ok (.ifCond .eq 7, 3) := by decide +kernel
theorem dX12_both_42 : decode cX12_both 42 = .ok (.iconst 1, 1) := by decide +kernel
theorem dX12_both_43 : decode cX12_both 43 = .ok (.goto 4, 3) := by decide +kernel
theorem dX12_both_46 : decode cX12_both 46 = .ok (.iconst 0, 1) := by decide +kernel
theorem dX12_both_47 : decode cX12_both 47 = .ok (.aload_n 0, 1) := by decide +kernel
theorem dX12_both_48 : decode cX12_both 48 = .ok (.iload_n 2, 1) := by decide +kernel
theorem dX12_both_49 : decode cX12_both 49 = .ok (.iload 4, 2) := by decide +kernel
theorem dX12_both_51 : decode cX12_both 51 = .ok (.iload 5, 2) := by decide +kernel
theorem dX12_both_53 : decode cX12_both 53 = .ok (.invokevirtual 431, 3) := by decide +kernel
theorem dX12_both_56 : decode cX12_both 56 = .ok (.ifCond .eq 7, 3) := by decide +kernel
theorem dX12_both_59 : decode cX12_both 59 = .ok (.iconst 2, 1) := by decide +kernel
theorem dX12_both_60 : decode cX12_both 60 = .ok (.goto 4, 3) := by decide +kernel
theorem dX12_both_63 : decode cX12_both 63 = .ok (.iconst 0, 1) := by decide +kernel
theorem dX12_both_64 : decode cX12_both 64 = .ok (.iadd, 1) := by decide +kernel
theorem dX12_both_65 : decode cX12_both 65 = .ok (.ireturn, 1) := by decide +kernel
theorem dX12_bestShare_0 : decode cX12_bestShare 0 = .ok (.iconst (-1), 1) := by decide +kernel
theorem dX12_bestShare_1 : decode cX12_bestShare 1 = .ok (.istore 5, 2) := by decide +kernel
theorem dX12_bestShare_3 : decode cX12_bestShare 3 = .ok (.iconst 0, 1) := by decide +kernel
theorem dX12_bestShare_4 : decode cX12_bestShare 4 = .ok (.istore 6, 2) := by decide +kernel
theorem dX12_bestShare_6 : decode cX12_bestShare 6 = .ok (.iconst 0, 1) := by decide +kernel
theorem dX12_bestShare_7 : decode cX12_bestShare 7 = .ok (.istore 7, 2) := by decide +kernel
theorem dX12_bestShare_9 : decode cX12_bestShare 9 = .ok (.iload 7, 2) := by decide +kernel
theorem dX12_bestShare_11 : decode cX12_bestShare 11 = .ok (.bipush 10, 2) := by decide +kernel
theorem dX12_bestShare_13 : decode cX12_bestShare 13 = .ok (.if_icmp .gt 102, 3) := by decide +kernel
theorem dX12_bestShare_16 : decode cX12_bestShare 16 = .ok (.aload_n 0, 1) := by decide +kernel
theorem dX12_bestShare_17 : decode cX12_bestShare 17 = .ok (.iload_n 1, 1) := by decide +kernel
theorem dX12_bestShare_18 : decode cX12_bestShare 18 = .ok (.iload_n 2, 1) := by decide +kernel
theorem dX12_bestShare_19 : decode cX12_bestShare 19 = .ok (.iload 7, 2) := by decide +kernel
theorem dX12_bestShare_21 : decode cX12_bestShare 21 = .ok (.iconst (-1), 1) := by decide +kernel
theorem dX12_bestShare_22 : decode cX12_bestShare 22 = .ok (.invokevirtual 427, 3) := by decide +kernel
theorem dX12_bestShare_25 : decode cX12_bestShare 25 = .ok (.aload_n 0, 1) := by decide +kernel
theorem dX12_bestShare_26 : decode cX12_bestShare 26 = .ok (.iload_n 1, 1) := by decide +kernel
theorem dX12_bestShare_27 : decode cX12_bestShare 27 = .ok (.iload_n 3, 1) := by decide +kernel
theorem dX12_bestShare_28 : decode cX12_bestShare 28 = .ok (.iload 4, 2) := by decide +kernel
theorem dX12_bestShare_30 : decode cX12_bestShare 30 = .ok (.invokevirtual 431, 3) := by decide +kernel
theorem dX12_bestShare_33 : decode cX12_bestShare 33 = .ok (.ifCond .eq 76, 3) := by decide +kernel
theorem dX12_bestShare_36 : decode cX12_bestShare 36 = .ok (.aload_n 0, 1) := by decide +kernel
theorem dX12_bestShare_37 : decode cX12_bestShare 37 = .ok (.iload_n 2, 1) := by decide +kernel
theorem dX12_bestShare_38 : decode cX12_bestShare 38 = .ok (.iload_n 3, 1) := by decide +kernel
theorem dX12_bestShare_39 : decode cX12_bestShare 39 = .ok (.iload 4, 2) := by decide +kernel
theorem dX12_bestShare_41 : decode cX12_bestShare 41 = .ok (.invokevirtual 431, 3) := by decide +kernel
theorem dX12_bestShare_44 : decode cX12_bestShare 44 = .ok (.ifCond .ne 6, 3) := by decide +kernel
theorem dX12_bestShare_47 : decode cX12_bestShare 47 = .ok (.goto 62, 3) := by decide +kernel
theorem dX12_bestShare_50 : decode cX12_bestShare 50 = .ok (.aload_n 0, 1) := by decide +kernel
theorem dX12_bestShare_51 : decode cX12_bestShare 51 = .ok (.iload_n 1, 1) := by decide +kernel
theorem dX12_bestShare_52 : decode cX12_bestShare 52 = .ok (.iload_n 3, 1) := by decide +kernel
theorem dX12_bestShare_53 : decode cX12_bestShare 53 = .ok (.iload 4, 2) := by decide +kernel
theorem dX12_bestShare_55 : decode cX12_bestShare 55 = .ok (.invokevirtual 418, 3) := by decide +kernel
theorem dX12_bestShare_58 : decode cX12_bestShare 58 = .ok (.istore 8, 2) := by decide +kernel
theorem dX12_bestShare_60 : decode cX12_bestShare 60 = .ok (.aload_n 0, 1) := by decide +kernel
theorem dX12_bestShare_61 : decode cX12_bestShare 61 = .ok (.iload_n 2, 1) := by decide +kernel
theorem dX12_bestShare_62 : decode cX12_bestShare 62 = .ok (.iload_n 3, 1) := by decide +kernel
theorem dX12_bestShare_63 : decode cX12_bestShare 63 = .ok (.iload 4, 2) := by decide +kernel
theorem dX12_bestShare_65 : decode cX12_bestShare 65 = .ok (.invokevirtual 418, 3) := by decide +kernel
theorem dX12_bestShare_68 : decode cX12_bestShare 68 = .ok (.istore 9, 2) := by decide +kernel
theorem dX12_bestShare_70 : decode cX12_bestShare 70 = .ok (.iload 8, 2) := by decide +kernel
theorem dX12_bestShare_72 : decode cX12_bestShare 72 = .ok (.iload 9, 2) := by decide +kernel
theorem dX12_bestShare_74 : decode cX12_bestShare 74 = .ok (.if_icmp .le 8, 3) := by decide +kernel
theorem dX12_bestShare_77 : decode cX12_bestShare 77 = .ok (.iload 8, 2) := by decide +kernel
theorem dX12_bestShare_79 : decode cX12_bestShare 79 = .ok (.goto 5, 3) := by decide +kernel
theorem dX12_bestShare_82 : decode cX12_bestShare 82 = .ok (.iload 9, 2) := by decide +kernel
theorem dX12_bestShare_84 : decode cX12_bestShare 84 = .ok (.istore 10, 2) := by decide +kernel
theorem dX12_bestShare_86 : decode cX12_bestShare 86 = .ok (.iload 5, 2) := by decide +kernel
theorem dX12_bestShare_88 : decode cX12_bestShare 88 = .ok (.ifCond .lt 13, 3) := by decide +kernel
theorem dX12_bestShare_91 : decode cX12_bestShare 91 = .ok (.iload 10, 2) := by decide +kernel
theorem dX12_bestShare_93 : decode cX12_bestShare 93 = .ok (.iload 6, 2) := by decide +kernel
theorem dX12_bestShare_95 : decode cX12_bestShare 95 = .ok (.if_icmp .lt 6, 3) := by decide +kernel
theorem dX12_bestShare_98 : decode cX12_bestShare 98 = .ok (.goto 11, 3) := by decide +kernel
theorem dX12_bestShare_101 : decode cX12_bestShare 101 = .ok (.iload 7, 2) := by decide +kernel
theorem dX12_bestShare_103 : decode cX12_bestShare 103 = .ok (.istore 5, 2) := by decide +kernel
theorem dX12_bestShare_105 : decode cX12_bestShare 105 = .ok (.iload 10, 2) := by decide +kernel
theorem dX12_bestShare_107 : decode cX12_bestShare 107 = .ok (.istore 6, 2) := by decide +kernel
theorem dX12_bestShare_109 : decode cX12_bestShare 109 = .ok (.iinc 7 1, 3) := by decide +kernel
theorem dX12_bestShare_112 : decode cX12_bestShare 112 = .ok (.goto (-103), 3) := by decide +kernel
theorem dX12_bestShare_115 : decode cX12_bestShare 115 = .ok (.iload 5, 2) := by decide +kernel
theorem dX12_bestShare_117 : decode cX12_bestShare 117 = .ok (.ireturn, 1) := by decide +kernel
theorem dX12_able_0 : decode cX12_able 0 = .ok (.aload_n 0, 1) := by decide +kernel
theorem dX12_able_1 : decode cX12_able 1 = .ok (.iload_n 1, 1) := by decide +kernel
theorem dX12_able_2 : decode cX12_able 2 = .ok (.invokevirtual 424, 3) := by decide +kernel
theorem dX12_able_5 : decode cX12_able 5 = .ok (.ifCond .eq 37, 3) := by decide +kernel
theorem dX12_able_8 : decode cX12_able 8 = .ok (.aload_n 0, 1) := by decide +kernel
theorem dX12_able_9 : decode cX12_able 9 = .ok (.iload_n 2, 1) := by decide +kernel
theorem dX12_able_10 : decode cX12_able 10 = .ok (.invokevirtual 424, 3) := by decide +kernel
theorem dX12_able_13 : decode cX12_able 13 = .ok (.ifCond .eq 29, 3) := by decide +kernel
theorem dX12_able_16 : decode cX12_able 16 = .ok (.iload_n 1, 1) := by decide +kernel
theorem dX12_able_17 : decode cX12_able 17 = .ok (.iload_n 2, 1) := by decide +kernel
theorem dX12_able_18 : decode cX12_able 18 = .ok (.if_icmp .ge 24, 3) := by decide +kernel
theorem dX12_able_21 : decode cX12_able 21 = .ok (.iload_n 3, 1) := by decide +kernel
theorem dX12_able_22 : decode cX12_able 22 = .ok (.iload 4, 2) := by decide +kernel
theorem dX12_able_24 : decode cX12_able 24 = .ok (.invokestatic 434, 3) := by decide +kernel
theorem dX12_able_27 : decode cX12_able 27 = .ok (.ifCond .eq 15, 3) := by decide +kernel
theorem dX12_able_30 : decode cX12_able 30 = .ok (.aload_n 0, 1) := by decide +kernel
theorem dX12_able_31 : decode cX12_able 31 = .ok (.iload_n 1, 1) := by decide +kernel
theorem dX12_able_32 : decode cX12_able 32 = .ok (.iload_n 2, 1) := by decide +kernel
theorem dX12_able_33 : decode cX12_able 33 = .ok (.iload_n 3, 1) := by decide +kernel
theorem dX12_able_34 : decode cX12_able 34 = .ok (.iload 4, 2) := by decide +kernel
theorem dX12_able_36 : decode cX12_able 36 = .ok (.invokevirtual 448, 3) := by decide +kernel
theorem dX12_able_39 : decode cX12_able 39 = .ok (.goto 4, 3) := by decide +kernel
theorem dX12_able_42 : decode cX12_able 42 = .ok (.iconst (-1), 1) := by decide +kernel
theorem dX12_able_43 : decode cX12_able 43 = .ok (.ireturn, 1) := by decide +kernel
theorem dX12_pairs_0 : decode cX12_pairs 0 = .ok (.iload_n 1, 1) := by decide +kernel
theorem dX12_pairs_1 : decode cX12_pairs 1 = .ok (.iload_n 2, 1) := by decide +kernel
theorem dX12_pairs_2 : decode cX12_pairs 2 = .ok (.invokestatic 434, 3) := by decide +kernel
theorem dX12_pairs_5 : decode cX12_pairs 5 = .ok (.ifCond .ne 5, 3) := by decide +kernel
theorem dX12_pairs_8 : decode cX12_pairs 8 = .ok (.iconst (-1), 1) := by decide +kernel
theorem dX12_pairs_9 : decode cX12_pairs 9 = .ok (.ireturn, 1) := by decide +kernel
theorem dX12_pairs_10 : decode cX12_pairs 10 = .ok (.iconst 0, 1) := by decide +kernel
theorem dX12_pairs_11 : decode cX12_pairs 11 = .ok (.istore_n 3, 1) := by decide +kernel
theorem dX12_pairs_12 : decode cX12_pairs 12 = .ok (.iconst 0, 1) := by decide +kernel
theorem dX12_pairs_13 : decode cX12_pairs 13 = .ok (.istore 4, 2) := by decide +kernel
theorem dX12_pairs_15 : decode cX12_pairs 15 = .ok (.iload 4, 2) := by decide +kernel
theorem dX12_pairs_17 : decode cX12_pairs 17 = .ok (.aload_n 0, 1) := by decide +kernel
theorem dX12_pairs_18 : decode cX12_pairs 18 = .ok (.invokevirtual 399, 3) := by decide +kernel
theorem dX12_pairs_21 : decode cX12_pairs 21 = .ok (.if_icmp .ge 51, 3) := by decide +kernel
theorem dX12_pairs_24 : decode cX12_pairs 24 = .ok (.iload 4, 2) := by decide +kernel
theorem dX12_pairs_26 : decode cX12_pairs 26 = .ok (.iconst 1, 1) := by decide +kernel
theorem dX12_pairs_27 : decode cX12_pairs 27 = .ok (.iadd, 1) := by decide +kernel
theorem dX12_pairs_28 : decode cX12_pairs 28 = .ok (.istore 5, 2) := by decide +kernel
theorem dX12_pairs_30 : decode cX12_pairs 30 = .ok (.iload 5, 2) := by decide +kernel
theorem dX12_pairs_32 : decode cX12_pairs 32 = .ok (.aload_n 0, 1) := by decide +kernel
theorem dX12_pairs_33 : decode cX12_pairs 33 = .ok (.invokevirtual 399, 3) := by decide +kernel
theorem dX12_pairs_36 : decode cX12_pairs 36 = .ok (.if_icmp .ge 30, 3) := by decide +kernel
theorem dX12_pairs_39 : decode cX12_pairs 39 = .ok (.iload_n 3, 1) := by decide +kernel
theorem dX12_pairs_40 : decode cX12_pairs 40 = .ok (.aload_n 0, 1) := by decide +kernel
theorem dX12_pairs_41 : decode cX12_pairs 41 = .ok (.iload 4, 2) := by decide +kernel
theorem dX12_pairs_43 : decode cX12_pairs 43 = .ok (.iload 5, 2) := by decide +kernel
theorem dX12_pairs_45 : decode cX12_pairs 45 = .ok (.iload_n 1, 1) := by decide +kernel
theorem dX12_pairs_46 : decode cX12_pairs 46 = .ok (.iload_n 2, 1) := by decide +kernel
theorem dX12_pairs_47 : decode cX12_pairs 47 = .ok (.invokevirtual 448, 3) := by decide +kernel
theorem dX12_pairs_50 : decode cX12_pairs 50 = .ok (.ifCond .lt 7, 3) := by decide +kernel
theorem dX12_pairs_53 : decode cX12_pairs 53 = .ok (.iconst 1, 1) := by decide +kernel
theorem dX12_pairs_54 : decode cX12_pairs 54 = .ok (.goto 4, 3) := by decide +kernel
theorem dX12_pairs_57 : decode cX12_pairs 57 = .ok (.iconst 0, 1) := by decide +kernel
theorem dX12_pairs_58 : decode cX12_pairs 58 = .ok (.iadd, 1) := by decide +kernel
theorem dX12_pairs_59 : decode cX12_pairs 59 = .ok (.istore_n 3, 1) := by decide +kernel
theorem dX12_pairs_60 : decode cX12_pairs 60 = .ok (.iinc 5 1, 3) := by decide +kernel
theorem dX12_pairs_63 : decode cX12_pairs 63 = .ok (.goto (-33), 3) := by decide +kernel
theorem dX12_pairs_66 : decode cX12_pairs 66 = .ok (.iinc 4 1, 3) := by decide +kernel
theorem dX12_pairs_69 : decode cX12_pairs 69 = .ok (.goto (-54), 3) := by decide +kernel
theorem dX12_pairs_72 : decode cX12_pairs 72 = .ok (.iload_n 3, 1) := by decide +kernel
theorem dX12_pairs_73 : decode cX12_pairs 73 = .ok (.ireturn, 1) := by decide +kernel
theorem dX12_pair_0 : decode cX12_pair 0 = .ok (.iload_n 2, 1) := by decide +kernel
theorem dX12_pair_1 : decode cX12_pair 1 = .ok (.iload_n 3, 1) := by decide +kernel
theorem dX12_pair_2 : decode cX12_pair 2 = .ok (.invokestatic 434, 3) := by decide +kernel
theorem dX12_pair_5 : decode cX12_pair 5 = .ok (.ifCond .ne 5, 3) := by decide +kernel
theorem dX12_pair_8 : decode cX12_pair 8 = .ok (.iconst (-1), 1) := by decide +kernel
theorem dX12_pair_9 : decode cX12_pair 9 = .ok (.ireturn, 1) := by decide +kernel
theorem dX12_pair_10 : decode cX12_pair 10 = .ok (.iload_n 1, 1) := by decide +kernel
theorem dX12_pair_11 : decode cX12_pair 11 = .ok (.istore 4, 2) := by decide +kernel
theorem dX12_pair_13 : decode cX12_pair 13 = .ok (.iconst 0, 1) := by decide +kernel
theorem dX12_pair_14 : decode cX12_pair 14 = .ok (.istore 5, 2) := by decide +kernel
theorem dX12_pair_16 : decode cX12_pair 16 = .ok (.iload 5, 2) := by decide +kernel
theorem dX12_pair_18 : decode cX12_pair 18 = .ok (.aload_n 0, 1) := by decide +kernel
theorem dX12_pair_19 : decode cX12_pair 19 = .ok (.invokevirtual 399, 3) := by decide +kernel
theorem dX12_pair_22 : decode cX12_pair 22 = .ok (.if_icmp .ge 68, 3) := by decide +kernel
theorem dX12_pair_25 : decode cX12_pair 25 = .ok (.iload 4, 2) := by decide +kernel
theorem dX12_pair_27 : decode cX12_pair 27 = .ok (.ifCond .lt 63, 3) := by decide +kernel
theorem dX12_pair_30 : decode cX12_pair 30 = .ok (.iload 5, 2) := by decide +kernel
theorem dX12_pair_32 : decode cX12_pair 32 = .ok (.iconst 1, 1) := by decide +kernel
theorem dX12_pair_33 : decode cX12_pair 33 = .ok (.iadd, 1) := by decide +kernel
theorem dX12_pair_34 : decode cX12_pair 34 = .ok (.istore 6, 2) := by decide +kernel
theorem dX12_pair_36 : decode cX12_pair 36 = .ok (.iload 6, 2) := by decide +kernel
theorem dX12_pair_38 : decode cX12_pair 38 = .ok (.aload_n 0, 1) := by decide +kernel
theorem dX12_pair_39 : decode cX12_pair 39 = .ok (.invokevirtual 399, 3) := by decide +kernel
theorem dX12_pair_42 : decode cX12_pair 42 = .ok (.if_icmp .ge 42, 3) := by decide +kernel
theorem dX12_pair_45 : decode cX12_pair 45 = .ok (.aload_n 0, 1) := by decide +kernel
theorem dX12_pair_46 : decode cX12_pair 46 = .ok (.iload 5, 2) := by decide +kernel
theorem dX12_pair_48 : decode cX12_pair 48 = .ok (.iload 6, 2) := by decide +kernel
theorem dX12_pair_50 : decode cX12_pair 50 = .ok (.iload_n 2, 1) := by decide +kernel
theorem dX12_pair_51 : decode cX12_pair 51 = .ok (.iload_n 3, 1) := by decide +kernel
theorem dX12_pair_52 : decode cX12_pair 52 = .ok (.invokevirtual 448, 3) := by decide +kernel
theorem dX12_pair_55 : decode cX12_pair 55 = .ok (.ifCond .ge 6, 3) := by decide +kernel
theorem dX12_pair_58 : decode cX12_pair 58 = .ok (.goto 20, 3) := by decide +kernel
theorem dX12_pair_61 : decode cX12_pair 61 = .ok (.iload 4, 2) := by decide +kernel
theorem dX12_pair_63 : decode cX12_pair 63 = .ok (.ifCond .ne 12, 3) := by decide +kernel
theorem dX12_pair_66 : decode cX12_pair 66 = .ok (.bipush 100, 2) := by decide +kernel
theorem dX12_pair_68 : decode cX12_pair 68 = .ok (.iload 5, 2) := by decide +kernel
theorem dX12_pair_70 : decode cX12_pair 70 = .ok (.imul, 1) := by decide +kernel
theorem dX12_pair_71 : decode cX12_pair 71 = .ok (.iload 6, 2) := by decide +kernel
theorem dX12_pair_73 : decode cX12_pair 73 = .ok (.iadd, 1) := by decide +kernel
theorem dX12_pair_74 : decode cX12_pair 74 = .ok (.ireturn, 1) := by decide +kernel
theorem dX12_pair_75 : decode cX12_pair 75 = .ok (.iinc 4 (-1), 3) := by decide +kernel
theorem dX12_pair_78 : decode cX12_pair 78 = .ok (.iinc 6 1, 3) := by decide +kernel
theorem dX12_pair_81 : decode cX12_pair 81 = .ok (.goto (-45), 3) := by decide +kernel
theorem dX12_pair_84 : decode cX12_pair 84 = .ok (.iinc 5 1, 3) := by decide +kernel
theorem dX12_pair_87 : decode cX12_pair 87 = .ok (.goto (-71), 3) := by decide +kernel
theorem dX12_pair_90 : decode cX12_pair 90 = .ok (.iconst (-1), 1) := by decide +kernel
theorem dX12_pair_91 : decode cX12_pair 91 = .ok (.ireturn, 1) := by decide +kernel
theorem dX12_gate_0 : decode cX12_gate 0 = .ok (.iload_n 1, 1) := by decide +kernel
theorem dX12_gate_1 : decode cX12_gate 1 = .ok (.iconst 0, 1) := by decide +kernel
theorem dX12_gate_2 : decode cX12_gate 2 = .ok (.iconst 1, 1) := by decide +kernel
theorem dX12_gate_3 : decode cX12_gate 3 = .ok (.invokestatic 402, 3) := by decide +kernel
theorem dX12_gate_6 : decode cX12_gate 6 = .ok (.ifCond .eq 21, 3) := by decide +kernel
theorem dX12_gate_9 : decode cX12_gate 9 = .ok (.iload_n 2, 1) := by decide +kernel
theorem dX12_gate_10 : decode cX12_gate 10 = .ok (.iconst (-1), 1) := by decide +kernel
theorem dX12_gate_11 : decode cX12_gate 11 = .ok (.iconst 3, 1) := by decide +kernel
theorem dX12_gate_12 : decode cX12_gate 12 = .ok (.invokestatic 402, 3) := by decide +kernel
theorem dX12_gate_15 : decode cX12_gate 15 = .ok (.ifCond .eq 12, 3) := by decide +kernel
theorem dX12_gate_18 : decode cX12_gate 18 = .ok (.iload_n 3, 1) := by decide +kernel
theorem dX12_gate_19 : decode cX12_gate 19 = .ok (.iload 4, 2) := by decide +kernel
theorem dX12_gate_21 : decode cX12_gate 21 = .ok (.invokestatic 434, 3) := by decide +kernel
theorem dX12_gate_24 : decode cX12_gate 24 = .ok (.ifCond .ne 5, 3) := by decide +kernel
theorem dX12_gate_27 : decode cX12_gate 27 = .ok (.iconst (-1), 1) := by decide +kernel
theorem dX12_gate_28 : decode cX12_gate 28 = .ok (.ireturn, 1) := by decide +kernel
theorem dX12_gate_29 : decode cX12_gate 29 = .ok (.iconst 0, 1) := by decide +kernel
theorem dX12_gate_30 : decode cX12_gate 30 = .ok (.istore 5, 2) := by decide +kernel
theorem dX12_gate_32 : decode cX12_gate 32 = .ok (.iconst 0, 1) := by decide +kernel
theorem dX12_gate_33 : decode cX12_gate 33 = .ok (.istore 6, 2) := by decide +kernel
theorem dX12_gate_35 : decode cX12_gate 35 = .ok (.iload 6, 2) := by decide +kernel
theorem dX12_gate_37 : decode cX12_gate 37 = .ok (.aload_n 0, 1) := by decide +kernel
theorem dX12_gate_38 : decode cX12_gate 38 = .ok (.invokevirtual 399, 3) := by decide +kernel
theorem dX12_gate_41 : decode cX12_gate 41 = .ok (.if_icmp .ge 117, 3) := by decide +kernel
theorem dX12_gate_44 : decode cX12_gate 44 = .ok (.iload_n 2, 1) := by decide +kernel
theorem dX12_gate_45 : decode cX12_gate 45 = .ok (.ifCond .lt 25, 3) := by decide +kernel
theorem dX12_gate_48 : decode cX12_gate 48 = .ok (.aload_n 0, 1) := by decide +kernel
theorem dX12_gate_49 : decode cX12_gate 49 = .ok (.getfield 33, 3) := by decide +kernel
theorem dX12_gate_52 : decode cX12_gate 52 = .ok (.bipush 16, 2) := by decide +kernel
theorem dX12_gate_54 : decode cX12_gate 54 = .ok (.aload_n 0, 1) := by decide +kernel
theorem dX12_gate_55 : decode cX12_gate 55 = .ok (.getfield 269, 3) := by decide +kernel
theorem dX12_gate_58 : decode cX12_gate 58 = .ok (.imul, 1) := by decide +kernel
theorem dX12_gate_59 : decode cX12_gate 59 = .ok (.iload 6, 2) := by decide +kernel
theorem dX12_gate_61 : decode cX12_gate 61 = .ok (.iadd, 1) := by decide +kernel
theorem dX12_gate_62 : decode cX12_gate 62 = .ok (.iaload, 1) := by decide +kernel
theorem dX12_gate_63 : decode cX12_gate 63 = .ok (.iload_n 2, 1) := by decide +kernel
theorem dX12_gate_64 : decode cX12_gate 64 = .ok (.if_icmp .eq 6, 3) := by decide +kernel
theorem dX12_gate_67 : decode cX12_gate 67 = .ok (.goto 85, 3) := by decide +kernel
theorem dX12_gate_70 : decode cX12_gate 70 = .ok (.iload_n 1, 1) := by decide +kernel
theorem dX12_gate_71 : decode cX12_gate 71 = .ok (.iconst 1, 1) := by decide +kernel
theorem dX12_gate_72 : decode cX12_gate 72 = .ok (.if_icmp .ne 27, 3) := by decide +kernel
theorem dX12_gate_75 : decode cX12_gate 75 = .ok (.iload 5, 2) := by decide +kernel
theorem dX12_gate_77 : decode cX12_gate 77 = .ok (.aload_n 0, 1) := by decide +kernel
theorem dX12_gate_78 : decode cX12_gate 78 = .ok (.iload 6, 2) := by decide +kernel
theorem dX12_gate_80 : decode cX12_gate 80 = .ok (.iload 6, 2) := by decide +kernel
theorem dX12_gate_82 : decode cX12_gate 82 = .ok (.iload_n 3, 1) := by decide +kernel
theorem dX12_gate_83 : decode cX12_gate 83 = .ok (.iload 4, 2) := by decide +kernel
theorem dX12_gate_85 : decode cX12_gate 85 = .ok (.invokevirtual 438, 3) := by decide +kernel
theorem dX12_gate_88 : decode cX12_gate 88 = .ok (.ifCond .eq 7, 3) := by decide +kernel
theorem dX12_gate_91 : decode cX12_gate 91 = .ok (.iconst 0, 1) := by decide +kernel
theorem dX12_gate_92 : decode cX12_gate 92 = .ok (.goto 4, 3) := by decide +kernel
theorem dX12_gate_95 : decode cX12_gate 95 = .ok (.iconst 1, 1) := by decide +kernel
theorem dX12_gate_96 : decode cX12_gate 96 = .ok (.iadd, 1) := by decide +kernel
theorem dX12_gate_97 : decode cX12_gate 97 = .ok (.istore 5, 2) := by decide +kernel
theorem dX12_gate_99 : decode cX12_gate 99 = .ok (.iconst 0, 1) := by decide +kernel
theorem dX12_gate_100 : decode cX12_gate 100 = .ok (.istore 7, 2) := by decide +kernel
theorem dX12_gate_102 : decode cX12_gate 102 = .ok (.iload 7, 2) := by decide +kernel
theorem dX12_gate_104 : decode cX12_gate 104 = .ok (.aload_n 0, 1) := by decide +kernel
theorem dX12_gate_105 : decode cX12_gate 105 = .ok (.invokevirtual 399, 3) := by decide +kernel
theorem dX12_gate_108 : decode cX12_gate 108 = .ok (.if_icmp .ge 44, 3) := by decide +kernel
theorem dX12_gate_111 : decode cX12_gate 111 = .ok (.iload_n 1, 1) := by decide +kernel
theorem dX12_gate_112 : decode cX12_gate 112 = .ok (.ifCond .ne 40, 3) := by decide +kernel
theorem dX12_gate_115 : decode cX12_gate 115 = .ok (.iload 5, 2) := by decide +kernel
theorem dX12_gate_117 : decode cX12_gate 117 = .ok (.iload 7, 2) := by decide +kernel
theorem dX12_gate_119 : decode cX12_gate 119 = .ok (.iload 6, 2) := by decide +kernel
theorem dX12_gate_121 : decode cX12_gate 121 = .ok (.if_icmp .eq 21, 3) := by decide +kernel
theorem dX12_gate_124 : decode cX12_gate 124 = .ok (.aload_n 0, 1) := by decide +kernel
theorem dX12_gate_125 : decode cX12_gate 125 = .ok (.iload 6, 2) := by decide +kernel
theorem dX12_gate_127 : decode cX12_gate 127 = .ok (.iload 7, 2) := by decide +kernel
theorem dX12_gate_129 : decode cX12_gate 129 = .ok (.iload_n 3, 1) := by decide +kernel
theorem dX12_gate_130 : decode cX12_gate 130 = .ok (.iload 4, 2) := by decide +kernel
theorem dX12_gate_132 : decode cX12_gate 132 = .ok (.invokevirtual 438, 3) := by decide +kernel
theorem dX12_gate_135 : decode cX12_gate 135 = .ok (.ifCond .eq 7, 3) := by decide +kernel
theorem dX12_gate_138 : decode cX12_gate 138 = .ok (.iconst 1, 1) := by decide +kernel
theorem dX12_gate_139 : decode cX12_gate 139 = .ok (.goto 4, 3) := by decide +kernel
theorem dX12_gate_142 : decode cX12_gate 142 = .ok (.iconst 0, 1) := by decide +kernel
theorem dX12_gate_143 : decode cX12_gate 143 = .ok (.iadd, 1) := by decide +kernel
theorem dX12_gate_144 : decode cX12_gate 144 = .ok (.istore 5, 2) := by decide +kernel
theorem dX12_gate_146 : decode cX12_gate 146 = .ok (.iinc 7 1, 3) := by decide +kernel
theorem dX12_gate_149 : decode cX12_gate 149 = .ok (.goto (-47), 3) := by decide +kernel
theorem dX12_gate_152 : decode cX12_gate 152 = .ok (.iinc 6 1, 3) := by decide +kernel
theorem dX12_gate_155 : decode cX12_gate 155 = .ok (.goto (-120), 3) := by decide +kernel
theorem dX12_gate_158 : decode cX12_gate 158 = .ok (.iload 5, 2) := by decide +kernel
theorem dX12_gate_160 : decode cX12_gate 160 = .ok (.ireturn, 1) := by decide +kernel
theorem dX12_twins_0 : decode cX12_twins 0 = .ok (.iload_n 1, 1) := by decide +kernel
theorem dX12_twins_1 : decode cX12_twins 1 = .ok (.iload_n 2, 1) := by decide +kernel
theorem dX12_twins_2 : decode cX12_twins 2 = .ok (.invokestatic 434, 3) := by decide +kernel
theorem dX12_twins_5 : decode cX12_twins 5 = .ok (.ifCond .ne 5, 3) := by decide +kernel
theorem dX12_twins_8 : decode cX12_twins 8 = .ok (.iconst (-1), 1) := by decide +kernel
theorem dX12_twins_9 : decode cX12_twins 9 = .ok (.ireturn, 1) := by decide +kernel
theorem dX12_twins_10 : decode cX12_twins 10 = .ok (.iconst 0, 1) := by decide +kernel
theorem dX12_twins_11 : decode cX12_twins 11 = .ok (.istore_n 3, 1) := by decide +kernel
theorem dX12_twins_12 : decode cX12_twins 12 = .ok (.iconst 0, 1) := by decide +kernel
theorem dX12_twins_13 : decode cX12_twins 13 = .ok (.istore 4, 2) := by decide +kernel
theorem dX12_twins_15 : decode cX12_twins 15 = .ok (.iload 4, 2) := by decide +kernel
theorem dX12_twins_17 : decode cX12_twins 17 = .ok (.aload_n 0, 1) := by decide +kernel
theorem dX12_twins_18 : decode cX12_twins 18 = .ok (.invokevirtual 399, 3) := by decide +kernel
theorem dX12_twins_21 : decode cX12_twins 21 = .ok (.if_icmp .ge 59, 3) := by decide +kernel
theorem dX12_twins_24 : decode cX12_twins 24 = .ok (.iconst 0, 1) := by decide +kernel
theorem dX12_twins_25 : decode cX12_twins 25 = .ok (.istore 5, 2) := by decide +kernel
theorem dX12_twins_27 : decode cX12_twins 27 = .ok (.iload 5, 2) := by decide +kernel
theorem dX12_twins_29 : decode cX12_twins 29 = .ok (.iload 4, 2) := by decide +kernel
theorem dX12_twins_31 : decode cX12_twins 31 = .ok (.if_icmp .ge 43, 3) := by decide +kernel
theorem dX12_twins_34 : decode cX12_twins 34 = .ok (.iload_n 3, 1) := by decide +kernel
theorem dX12_twins_35 : decode cX12_twins 35 = .ok (.aload_n 0, 1) := by decide +kernel
theorem dX12_twins_36 : decode cX12_twins 36 = .ok (.iload 4, 2) := by decide +kernel
theorem dX12_twins_38 : decode cX12_twins 38 = .ok (.iload 5, 2) := by decide +kernel
theorem dX12_twins_40 : decode cX12_twins 40 = .ok (.iload_n 1, 1) := by decide +kernel
theorem dX12_twins_41 : decode cX12_twins 41 = .ok (.iload_n 2, 1) := by decide +kernel
theorem dX12_twins_42 : decode cX12_twins 42 = .ok (.invokevirtual 438, 3) := by decide +kernel
theorem dX12_twins_45 : decode cX12_twins 45 = .ok (.ifCond .eq 20, 3) := by decide +kernel
theorem dX12_twins_48 : decode cX12_twins 48 = .ok (.aload_n 0, 1) := by decide +kernel
theorem dX12_twins_49 : decode cX12_twins 49 = .ok (.iload 5, 2) := by decide +kernel
theorem dX12_twins_51 : decode cX12_twins 51 = .ok (.iload 4, 2) := by decide +kernel
theorem dX12_twins_53 : decode cX12_twins 53 = .ok (.iload_n 1, 1) := by decide +kernel
theorem dX12_twins_54 : decode cX12_twins 54 = .ok (.iload_n 2, 1) := by decide +kernel
theorem dX12_twins_55 : decode cX12_twins 55 = .ok (.invokevirtual 438, 3) := by decide +kernel
theorem dX12_twins_58 : decode cX12_twins 58 = .ok (.ifCond .eq 7, 3) := by decide +kernel
theorem dX12_twins_61 : decode cX12_twins 61 = .ok (.iconst 1, 1) := by decide +kernel
theorem dX12_twins_62 : decode cX12_twins 62 = .ok (.goto 4, 3) := by decide +kernel
theorem dX12_twins_65 : decode cX12_twins 65 = .ok (.iconst 0, 1) := by decide +kernel
theorem dX12_twins_66 : decode cX12_twins 66 = .ok (.iadd, 1) := by decide +kernel
theorem dX12_twins_67 : decode cX12_twins 67 = .ok (.istore_n 3, 1) := by decide +kernel
theorem dX12_twins_68 : decode cX12_twins 68 = .ok (.iinc 5 1, 3) := by decide +kernel
theorem dX12_twins_71 : decode cX12_twins 71 = .ok (.goto (-44), 3) := by decide +kernel
theorem dX12_twins_74 : decode cX12_twins 74 = .ok (.iinc 4 1, 3) := by decide +kernel
theorem dX12_twins_77 : decode cX12_twins 77 = .ok (.goto (-62), 3) := by decide +kernel
theorem dX12_twins_80 : decode cX12_twins 80 = .ok (.iload_n 3, 1) := by decide +kernel
theorem dX12_twins_81 : decode cX12_twins 81 = .ok (.ireturn, 1) := by decide +kernel
theorem dX12_until_0 : decode cX12_until 0 = .ok (.aload_n 0, 1) := by decide +kernel
theorem dX12_until_1 : decode cX12_until 1 = .ok (.iload_n 1, 1) := by decide +kernel
theorem dX12_until_2 : decode cX12_until 2 = .ok (.invokevirtual 424, 3) := by decide +kernel
theorem dX12_until_5 : decode cX12_until 5 = .ok (.ifCond .eq 11, 3) := by decide +kernel
theorem dX12_until_8 : decode cX12_until 8 = .ok (.iconst 0, 1) := by decide +kernel
theorem dX12_until_9 : decode cX12_until 9 = .ok (.iload_n 2, 1) := by decide +kernel
theorem dX12_until_10 : decode cX12_until 10 = .ok (.invokestatic 434, 3) := by decide +kernel
theorem dX12_until_13 : decode cX12_until 13 = .ok (.ifCond .ne 5, 3) := by decide +kernel
theorem dX12_until_16 : decode cX12_until 16 = .ok (.iconst (-1), 1) := by decide +kernel
theorem dX12_until_17 : decode cX12_until 17 = .ok (.ireturn, 1) := by decide +kernel
theorem dX12_until_18 : decode cX12_until 18 = .ok (.iconst 0, 1) := by decide +kernel
theorem dX12_until_19 : decode cX12_until 19 = .ok (.istore_n 3, 1) := by decide +kernel
theorem dX12_until_20 : decode cX12_until 20 = .ok (.iload_n 3, 1) := by decide +kernel
theorem dX12_until_21 : decode cX12_until 21 = .ok (.bipush 60, 2) := by decide +kernel
theorem dX12_until_23 : decode cX12_until 23 = .ok (.if_icmp .gt 22, 3) := by decide +kernel
theorem dX12_until_26 : decode cX12_until 26 = .ok (.aload_n 0, 1) := by decide +kernel
theorem dX12_until_27 : decode cX12_until 27 = .ok (.iload_n 1, 1) := by decide +kernel
theorem dX12_until_28 : decode cX12_until 28 = .ok (.iload_n 1, 1) := by decide +kernel
theorem dX12_until_29 : decode cX12_until 29 = .ok (.iload_n 3, 1) := by decide +kernel
theorem dX12_until_30 : decode cX12_until 30 = .ok (.iload_n 2, 1) := by decide +kernel
theorem dX12_until_31 : decode cX12_until 31 = .ok (.invokevirtual 438, 3) := by decide +kernel
theorem dX12_until_34 : decode cX12_until 34 = .ok (.ifCond .ne 5, 3) := by decide +kernel
theorem dX12_until_37 : decode cX12_until 37 = .ok (.iload_n 3, 1) := by decide +kernel
theorem dX12_until_38 : decode cX12_until 38 = .ok (.ireturn, 1) := by decide +kernel
theorem dX12_until_39 : decode cX12_until 39 = .ok (.iinc 3 1, 3) := by decide +kernel
theorem dX12_until_42 : decode cX12_until 42 = .ok (.goto (-22), 3) := by decide +kernel
theorem dX12_until_45 : decode cX12_until 45 = .ok (.iconst (-1), 1) := by decide +kernel
theorem dX12_until_46 : decode cX12_until 46 = .ok (.ireturn, 1) := by decide +kernel
theorem dX12_signsOf_0 : decode cX12_signsOf 0 = .ok (.iconst 0, 1) := by decide +kernel
theorem dX12_signsOf_1 : decode cX12_signsOf 1 = .ok (.istore_n 1, 1) := by decide +kernel
theorem dX12_signsOf_2 : decode cX12_signsOf 2 = .ok (.iconst 0, 1) := by decide +kernel
theorem dX12_signsOf_3 : decode cX12_signsOf 3 = .ok (.istore_n 2, 1) := by decide +kernel
theorem dX12_signsOf_4 : decode cX12_signsOf 4 = .ok (.iload_n 2, 1) := by decide +kernel
theorem dX12_signsOf_5 : decode cX12_signsOf 5 = .ok (.aload_n 0, 1) := by decide +kernel
theorem dX12_signsOf_6 : decode cX12_signsOf 6 = .ok (.getfield 281, 3) := by decide +kernel
theorem dX12_signsOf_9 : decode cX12_signsOf 9 = .ok (.if_icmp .ge 29, 3) := by decide +kernel
theorem dX12_signsOf_12 : decode cX12_signsOf 12 = .ok (.iload_n 1, 1) := by decide +kernel
theorem dX12_signsOf_13 : decode cX12_signsOf 13 = .ok (.aload_n 0, 1) := by decide +kernel
theorem dX12_signsOf_14 : decode cX12_signsOf 14 = .ok (.iconst 1, 1) := by decide +kernel
theorem dX12_signsOf_15 : decode cX12_signsOf 15 = .ok (.iload_n 2, 1) := by decide +kernel
theorem dX12_signsOf_16 : decode cX12_signsOf 16 = .ok (.iadd, 1) := by decide +kernel
theorem dX12_signsOf_17 : decode cX12_signsOf 17 = .ok (.invokevirtual 421, 3) := by decide +kernel
theorem dX12_signsOf_20 : decode cX12_signsOf 20 = .ok (.ifCond .eq 9, 3) := by decide +kernel
theorem dX12_signsOf_23 : decode cX12_signsOf 23 = .ok (.iconst 1, 1) := by decide +kernel
theorem dX12_signsOf_24 : decode cX12_signsOf 24 = .ok (.iload_n 2, 1) := by decide +kernel
theorem dX12_signsOf_25 : decode cX12_signsOf 25 = .ok (.ishl, 1) := by decide +kernel
theorem dX12_signsOf_26 : decode cX12_signsOf 26 = .ok (.goto 4, 3) := by decide +kernel
theorem dX12_signsOf_29 : decode cX12_signsOf 29 = .ok (.iconst 0, 1) := by decide +kernel
theorem dX12_signsOf_30 : decode cX12_signsOf 30 = .ok (.ior, 1) := by decide +kernel
theorem dX12_signsOf_31 : decode cX12_signsOf 31 = .ok (.istore_n 1, 1) := by decide +kernel
theorem dX12_signsOf_32 : decode cX12_signsOf 32 = .ok (.iinc 2 1, 3) := by decide +kernel
theorem dX12_signsOf_35 : decode cX12_signsOf 35 = .ok (.goto (-31), 3) := by decide +kernel
theorem dX12_signsOf_38 : decode cX12_signsOf 38 = .ok (.iload_n 1, 1) := by decide +kernel
theorem dX12_signsOf_39 : decode cX12_signsOf 39 = .ok (.ireturn, 1) := by decide +kernel
theorem dX12_signs_0 : decode cX12_signs 0 = .ok (.aload_n 0, 1) := by decide +kernel
theorem dX12_signs_1 : decode cX12_signs 1 = .ok (.iload_n 1, 1) := by decide +kernel
theorem dX12_signs_2 : decode cX12_signs 2 = .ok (.iload_n 2, 1) := by decide +kernel
theorem dX12_signs_3 : decode cX12_signs 3 = .ok (.iload_n 3, 1) := by decide +kernel
theorem dX12_signs_4 : decode cX12_signs 4 = .ok (.invokevirtual 442, 3) := by decide +kernel
theorem dX12_signs_7 : decode cX12_signs 7 = .ok (.ifCond .eq 11, 3) := by decide +kernel
theorem dX12_signs_10 : decode cX12_signs 10 = .ok (.iload 4, 2) := by decide +kernel
theorem dX12_signs_12 : decode cX12_signs 12 = .ok (.invokestatic 445, 3) := by decide +kernel
theorem dX12_signs_15 : decode cX12_signs 15 = .ok (.ifCond .ne 5, 3) := by decide +kernel
theorem dX12_signs_18 : decode cX12_signs 18 = .ok (.iconst (-1), 1) := by decide +kernel
theorem dX12_signs_19 : decode cX12_signs 19 = .ok (.ireturn, 1) := by decide +kernel
theorem dX12_signs_20 : decode cX12_signs 20 = .ok (.aload_n 0, 1) := by decide +kernel
theorem dX12_signs_21 : decode cX12_signs 21 = .ok (.iload_n 1, 1) := by decide +kernel
theorem dX12_signs_22 : decode cX12_signs 22 = .ok (.iload_n 2, 1) := by decide +kernel
theorem dX12_signs_23 : decode cX12_signs 23 = .ok (.iload_n 3, 1) := by decide +kernel
theorem dX12_signs_24 : decode cX12_signs 24 = .ok (.iload 4, 2) := by decide +kernel
theorem dX12_signs_26 : decode cX12_signs 26 = .ok (.invokevirtual 427, 3) := by decide +kernel
theorem dX12_signs_29 : decode cX12_signs 29 = .ok (.aload_n 0, 1) := by decide +kernel
theorem dX12_signs_30 : decode cX12_signs 30 = .ok (.invokevirtual 452, 3) := by decide +kernel
theorem dX12_signs_33 : decode cX12_signs 33 = .ok (.ireturn, 1) := by decide +kernel
theorem dX12_common_0 : decode cX12_common 0 = .ok (.iload_n 0, 1) := by decide +kernel
theorem dX12_common_1 : decode cX12_common 1 = .ok (.istore_n 2, 1) := by decide +kernel
theorem dX12_common_2 : decode cX12_common 2 = .ok (.iload_n 1, 1) := by decide +kernel
theorem dX12_common_3 : decode cX12_common 3 = .ok (.istore_n 3, 1) := by decide +kernel
theorem dX12_common_4 : decode cX12_common 4 = .ok (.iload_n 3, 1) := by decide +kernel
theorem dX12_common_5 : decode cX12_common 5 = .ok (.ifCond .eq 16, 3) := by decide +kernel
theorem dX12_common_8 : decode cX12_common 8 = .ok (.iload_n 2, 1) := by decide +kernel
theorem dX12_common_9 : decode cX12_common 9 = .ok (.iload_n 3, 1) := by decide +kernel
theorem dX12_common_10 : decode cX12_common 10 = .ok (.irem, 1) := by decide +kernel
theorem dX12_common_11 : decode cX12_common 11 = .ok (.istore 4, 2) := by decide +kernel
theorem dX12_common_13 : decode cX12_common 13 = .ok (.iload_n 3, 1) := by decide +kernel
theorem dX12_common_14 : decode cX12_common 14 = .ok (.istore_n 2, 1) := by decide +kernel
theorem dX12_common_15 : decode cX12_common 15 = .ok (.iload 4, 2) := by decide +kernel
theorem dX12_common_17 : decode cX12_common 17 = .ok (.istore_n 3, 1) := by decide +kernel
theorem dX12_common_18 : decode cX12_common 18 = .ok (.goto (-14), 3) := by decide +kernel
theorem dX12_common_21 : decode cX12_common 21 = .ok (.iload_n 2, 1) := by decide +kernel
theorem dX12_common_22 : decode cX12_common 22 = .ok (.ireturn, 1) := by decide +kernel
theorem dX12_caught_0 : decode cX12_caught 0 = .ok (.iload_n 1, 1) := by decide +kernel
theorem dX12_caught_1 : decode cX12_caught 1 = .ok (.invokestatic 445, 3) := by decide +kernel
theorem dX12_caught_4 : decode cX12_caught 4 = .ok (.ifCond .eq 20, 3) := by decide +kernel
theorem dX12_caught_7 : decode cX12_caught 7 = .ok (.iload_n 2, 1) := by decide +kernel
theorem dX12_caught_8 : decode cX12_caught 8 = .ok (.iconst 0, 1) := by decide +kernel
theorem dX12_caught_9 : decode cX12_caught 9 = .ok (.iconst 1, 1) := by decide +kernel
theorem dX12_caught_10 : decode cX12_caught 10 = .ok (.invokestatic 402, 3) := by decide +kernel
theorem dX12_caught_13 : decode cX12_caught 13 = .ok (.ifCond .eq 11, 3) := by decide +kernel
theorem dX12_caught_16 : decode cX12_caught 16 = .ok (.aload_n 0, 1) := by decide +kernel
theorem dX12_caught_17 : decode cX12_caught 17 = .ok (.invokevirtual 399, 3) := by decide +kernel
theorem dX12_caught_20 : decode cX12_caught 20 = .ok (.iconst 2, 1) := by decide +kernel
theorem dX12_caught_21 : decode cX12_caught 21 = .ok (.if_icmp .ge 5, 3) := by decide +kernel
theorem dX12_caught_24 : decode cX12_caught 24 = .ok (.iconst (-1), 1) := by decide +kernel
theorem dX12_caught_25 : decode cX12_caught 25 = .ok (.ireturn, 1) := by decide +kernel
theorem dX12_caught_26 : decode cX12_caught 26 = .ok (.iconst 0, 1) := by decide +kernel
theorem dX12_caught_27 : decode cX12_caught 27 = .ok (.istore_n 3, 1) := by decide +kernel
theorem dX12_caught_28 : decode cX12_caught 28 = .ok (.iconst 0, 1) := by decide +kernel
theorem dX12_caught_29 : decode cX12_caught 29 = .ok (.istore 4, 2) := by decide +kernel
theorem dX12_caught_31 : decode cX12_caught 31 = .ok (.iconst 0, 1) := by decide +kernel
theorem dX12_caught_32 : decode cX12_caught 32 = .ok (.istore 5, 2) := by decide +kernel
theorem dX12_caught_34 : decode cX12_caught 34 = .ok (.iload 5, 2) := by decide +kernel
theorem dX12_caught_36 : decode cX12_caught 36 = .ok (.aload_n 0, 1) := by decide +kernel
theorem dX12_caught_37 : decode cX12_caught 37 = .ok (.invokevirtual 399, 3) := by decide +kernel
theorem dX12_caught_40 : decode cX12_caught 40 = .ok (.if_icmp .ge 75, 3) := by decide +kernel
theorem dX12_caught_43 : decode cX12_caught 43 = .ok (.iload 5, 2) := by decide +kernel
theorem dX12_caught_45 : decode cX12_caught 45 = .ok (.iconst 1, 1) := by decide +kernel
theorem dX12_caught_46 : decode cX12_caught 46 = .ok (.iadd, 1) := by decide +kernel
theorem dX12_caught_47 : decode cX12_caught 47 = .ok (.istore 6, 2) := by decide +kernel
theorem dX12_caught_49 : decode cX12_caught 49 = .ok (.iload 6, 2) := by decide +kernel
theorem dX12_caught_51 : decode cX12_caught 51 = .ok (.aload_n 0, 1) := by decide +kernel
theorem dX12_caught_52 : decode cX12_caught 52 = .ok (.invokevirtual 399, 3) := by decide +kernel
theorem dX12_caught_55 : decode cX12_caught 55 = .ok (.if_icmp .ge 54, 3) := by decide +kernel
theorem dX12_caught_58 : decode cX12_caught 58 = .ok (.iconst 1, 1) := by decide +kernel
theorem dX12_caught_59 : decode cX12_caught 59 = .ok (.istore 7, 2) := by decide +kernel
theorem dX12_caught_61 : decode cX12_caught 61 = .ok (.iload 7, 2) := by decide +kernel
theorem dX12_caught_63 : decode cX12_caught 63 = .ok (.bipush 9, 2) := by decide +kernel
theorem dX12_caught_65 : decode cX12_caught 65 = .ok (.if_icmp .gt 38, 3) := by decide +kernel
theorem dX12_caught_68 : decode cX12_caught 68 = .ok (.aload_n 0, 1) := by decide +kernel
theorem dX12_caught_69 : decode cX12_caught 69 = .ok (.iload 5, 2) := by decide +kernel
theorem dX12_caught_71 : decode cX12_caught 71 = .ok (.iload 6, 2) := by decide +kernel
theorem dX12_caught_73 : decode cX12_caught 73 = .ok (.iload 7, 2) := by decide +kernel
theorem dX12_caught_75 : decode cX12_caught 75 = .ok (.iload_n 1, 1) := by decide +kernel
theorem dX12_caught_76 : decode cX12_caught 76 = .ok (.invokevirtual 427, 3) := by decide +kernel
theorem dX12_caught_79 : decode cX12_caught 79 = .ok (.iload_n 3, 1) := by decide +kernel
theorem dX12_caught_80 : decode cX12_caught 80 = .ok (.aload_n 0, 1) := by decide +kernel
theorem dX12_caught_81 : decode cX12_caught 81 = .ok (.invokevirtual 452, 3) := by decide +kernel
theorem dX12_caught_84 : decode cX12_caught 84 = .ok (.ifCond .eq 7, 3) := by decide +kernel
theorem dX12_caught_87 : decode cX12_caught 87 = .ok (.iconst 1, 1) := by decide +kernel
theorem dX12_caught_88 : decode cX12_caught 88 = .ok (.goto 4, 3) := by decide +kernel
theorem dX12_caught_91 : decode cX12_caught 91 = .ok (.iconst 0, 1) := by decide +kernel
theorem dX12_caught_92 : decode cX12_caught 92 = .ok (.iadd, 1) := by decide +kernel
theorem dX12_caught_93 : decode cX12_caught 93 = .ok (.istore_n 3, 1) := by decide +kernel
theorem dX12_caught_94 : decode cX12_caught 94 = .ok (.iinc 4 1, 3) := by decide +kernel
theorem dX12_caught_97 : decode cX12_caught 97 = .ok (.iinc 7 1, 3) := by decide +kernel
theorem dX12_caught_100 : decode cX12_caught 100 = .ok (.goto (-39), 3) := by decide +kernel
theorem dX12_caught_103 : decode cX12_caught 103 = .ok (.iinc 6 1, 3) := by decide +kernel
theorem dX12_caught_106 : decode cX12_caught 106 = .ok (.goto (-57), 3) := by decide +kernel
theorem dX12_caught_109 : decode cX12_caught 109 = .ok (.iinc 5 1, 3) := by decide +kernel
theorem dX12_caught_112 : decode cX12_caught 112 = .ok (.goto (-78), 3) := by decide +kernel
theorem dX12_caught_115 : decode cX12_caught 115 = .ok (.iload_n 3, 1) := by decide +kernel
theorem dX12_caught_116 : decode cX12_caught 116 = .ok (.iload 4, 2) := by decide +kernel
theorem dX12_caught_118 : decode cX12_caught 118 = .ok (.invokestatic 455, 3) := by decide +kernel
theorem dX12_caught_121 : decode cX12_caught 121 = .ok (.istore 5, 2) := by decide +kernel
theorem dX12_caught_123 : decode cX12_caught 123 = .ok (.iload_n 2, 1) := by decide +kernel
theorem dX12_caught_124 : decode cX12_caught 124 = .ok (.ifCond .ne 10, 3) := by decide +kernel
theorem dX12_caught_127 : decode cX12_caught 127 = .ok (.iload_n 3, 1) := by decide +kernel
theorem dX12_caught_128 : decode cX12_caught 128 = .ok (.iload 5, 2) := by decide +kernel
theorem dX12_caught_130 : decode cX12_caught 130 = .ok (.idiv, 1) := by decide +kernel
theorem dX12_caught_131 : decode cX12_caught 131 = .ok (.goto 8, 3) := by decide +kernel
theorem dX12_caught_134 : decode cX12_caught 134 = .ok (.iload 4, 2) := by decide +kernel
theorem dX12_caught_136 : decode cX12_caught 136 = .ok (.iload 5, 2) := by decide +kernel
theorem dX12_caught_138 : decode cX12_caught 138 = .ok (.idiv, 1) := by decide +kernel
theorem dX12_caught_139 : decode cX12_caught 139 = .ok (.ireturn, 1) := by decide +kernel
theorem dX12_paper_0 : decode cX12_paper 0 = .ok (.aload_n 0, 1) := by decide +kernel
theorem dX12_paper_1 : decode cX12_paper 1 = .ok (.iload_n 1, 1) := by decide +kernel
theorem dX12_paper_2 : decode cX12_paper 2 = .ok (.invokevirtual 424, 3) := by decide +kernel
theorem dX12_paper_5 : decode cX12_paper 5 = .ok (.ifCond .eq 54, 3) := by decide +kernel
theorem dX12_paper_8 : decode cX12_paper 8 = .ok (.aload_n 0, 1) := by decide +kernel
theorem dX12_paper_9 : decode cX12_paper 9 = .ok (.iload_n 2, 1) := by decide +kernel
theorem dX12_paper_10 : decode cX12_paper 10 = .ok (.invokevirtual 424, 3) := by decide +kernel
theorem dX12_paper_13 : decode cX12_paper 13 = .ok (.ifCond .eq 46, 3) := by decide +kernel
theorem dX12_paper_16 : decode cX12_paper 16 = .ok (.iload_n 3, 1) := by decide +kernel
theorem dX12_paper_17 : decode cX12_paper 17 = .ok (.iconst 0, 1) := by decide +kernel
theorem dX12_paper_18 : decode cX12_paper 18 = .ok (.bipush 10, 2) := by decide +kernel
theorem dX12_paper_20 : decode cX12_paper 20 = .ok (.invokestatic 402, 3) := by decide +kernel
theorem dX12_paper_23 : decode cX12_paper 23 = .ok (.ifCond .eq 36, 3) := by decide +kernel
theorem dX12_paper_26 : decode cX12_paper 26 = .ok (.iload 4, 2) := by decide +kernel
theorem dX12_paper_28 : decode cX12_paper 28 = .ok (.iconst 0, 1) := by decide +kernel
theorem dX12_paper_29 : decode cX12_paper 29 = .ok (.sipush 6099, 3) := by decide +kernel
theorem dX12_paper_32 : decode cX12_paper 32 = .ok (.invokestatic 402, 3) := by decide +kernel
theorem dX12_paper_35 : decode cX12_paper 35 = .ok (.ifCond .eq 24, 3) := by decide +kernel
theorem dX12_paper_38 : decode cX12_paper 38 = .ok (.iload 4, 2) := by decide +kernel
theorem dX12_paper_40 : decode cX12_paper 40 = .ok (.bipush 10, 2) := by decide +kernel
theorem dX12_paper_42 : decode cX12_paper 42 = .ok (.idiv, 1) := by decide +kernel
theorem dX12_paper_43 : decode cX12_paper 43 = .ok (.bipush 10, 2) := by decide +kernel
theorem dX12_paper_45 : decode cX12_paper 45 = .ok (.irem, 1) := by decide +kernel
theorem dX12_paper_46 : decode cX12_paper 46 = .ok (.iconst 4, 1) := by decide +kernel
theorem dX12_paper_47 : decode cX12_paper 47 = .ok (.if_icmp .ge 12, 3) := by decide +kernel
theorem dX12_paper_50 : decode cX12_paper 50 = .ok (.aload_n 0, 1) := by decide +kernel
theorem dX12_paper_51 : decode cX12_paper 51 = .ok (.getfield 275, 3) := by decide +kernel
theorem dX12_paper_54 : decode cX12_paper 54 = .ok (.bipush 40, 2) := by decide +kernel
theorem dX12_paper_56 : decode cX12_paper 56 = .ok (.if_icmp .ne 5, 3) := by decide +kernel
theorem dX12_paper_59 : decode cX12_paper 59 = .ok (.iconst (-1), 1) := by decide +kernel
theorem dX12_paper_60 : decode cX12_paper 60 = .ok (.ireturn, 1) := by decide +kernel
theorem dX12_paper_61 : decode cX12_paper 61 = .ok (.aload_n 0, 1) := by decide +kernel
theorem dX12_paper_62 : decode cX12_paper 62 = .ok (.getfield 95, 3) := by decide +kernel
theorem dX12_paper_65 : decode cX12_paper 65 = .ok (.aload_n 0, 1) := by decide +kernel
theorem dX12_paper_66 : decode cX12_paper 66 = .ok (.getfield 275, 3) := by decide +kernel
theorem dX12_paper_69 : decode cX12_paper 69 = .ok (.iload_n 1, 1) := by decide +kernel
theorem dX12_paper_70 : decode cX12_paper 70 = .ok (.iastore, 1) := by decide +kernel
theorem dX12_paper_71 : decode cX12_paper 71 = .ok (.aload_n 0, 1) := by decide +kernel
theorem dX12_paper_72 : decode cX12_paper 72 = .ok (.getfield 98, 3) := by decide +kernel
theorem dX12_paper_75 : decode cX12_paper 75 = .ok (.aload_n 0, 1) := by decide +kernel
theorem dX12_paper_76 : decode cX12_paper 76 = .ok (.getfield 275, 3) := by decide +kernel
theorem dX12_paper_79 : decode cX12_paper 79 = .ok (.iload_n 2, 1) := by decide +kernel
theorem dX12_paper_80 : decode cX12_paper 80 = .ok (.iastore, 1) := by decide +kernel
theorem dX12_paper_81 : decode cX12_paper 81 = .ok (.aload_n 0, 1) := by decide +kernel
theorem dX12_paper_82 : decode cX12_paper 82 = .ok (.getfield 101, 3) := by decide +kernel
theorem dX12_paper_85 : decode cX12_paper 85 = .ok (.aload_n 0, 1) := by decide +kernel
theorem dX12_paper_86 : decode cX12_paper 86 = .ok (.getfield 275, 3) := by decide +kernel
theorem dX12_paper_89 : decode cX12_paper 89 = .ok (.iload_n 3, 1) := by decide +kernel
theorem dX12_paper_90 : decode cX12_paper 90 = .ok (.iastore, 1) := by decide +kernel
theorem dX12_paper_91 : decode cX12_paper 91 = .ok (.aload_n 0, 1) := by decide +kernel
theorem dX12_paper_92 : decode cX12_paper 92 = .ok (.getfield 104, 3) := by decide +kernel
theorem dX12_paper_95 : decode cX12_paper 95 = .ok (.aload_n 0, 1) := by decide +kernel
theorem dX12_paper_96 : decode cX12_paper 96 = .ok (.getfield 275, 3) := by decide +kernel
theorem dX12_paper_99 : decode cX12_paper 99 = .ok (.iload 4, 2) := by decide +kernel
theorem dX12_paper_101 : decode cX12_paper 101 = .ok (.iastore, 1) := by decide +kernel
theorem dX12_paper_102 : decode cX12_paper 102 = .ok (.aload_n 0, 1) := by decide +kernel
theorem dX12_paper_103 : decode cX12_paper 103 = .ok (.getfield 107, 3) := by decide +kernel
theorem dX12_paper_106 : decode cX12_paper 106 = .ok (.aload_n 0, 1) := by decide +kernel
theorem dX12_paper_107 : decode cX12_paper 107 = .ok (.getfield 275, 3) := by decide +kernel
theorem dX12_paper_110 : decode cX12_paper 110 = .ok (.aload_n 0, 1) := by decide +kernel
theorem dX12_paper_111 : decode cX12_paper 111 = .ok (.getfield 458, 3) := by decide +kernel
theorem dX12_paper_114 : decode cX12_paper 114 = .ok (.iastore, 1) := by decide +kernel
theorem dX12_paper_115 : decode cX12_paper 115 = .ok (.aload_n 0, 1) := by decide +kernel
theorem dX12_paper_116 : decode cX12_paper 116 = .ok (.getfield 110, 3) := by decide +kernel
theorem dX12_paper_119 : decode cX12_paper 119 = .ok (.aload_n 0, 1) := by decide +kernel
theorem dX12_paper_120 : decode cX12_paper 120 = .ok (.getfield 275, 3) := by decide +kernel
theorem dX12_paper_123 : decode cX12_paper 123 = .ok (.iconst (-1), 1) := by decide +kernel
theorem dX12_paper_124 : decode cX12_paper 124 = .ok (.iastore, 1) := by decide +kernel
theorem dX12_paper_125 : decode cX12_paper 125 = .ok (.aload_n 0, 1) := by decide +kernel
theorem dX12_paper_126 : decode cX12_paper 126 = .ok (.dup, 1) := by decide +kernel
theorem dX12_paper_127 : decode cX12_paper 127 = .ok (.getfield 275, 3) := by decide +kernel
theorem dX12_paper_130 : decode cX12_paper 130 = .ok (.iconst 1, 1) := by decide +kernel
theorem dX12_paper_131 : decode cX12_paper 131 = .ok (.iadd, 1) := by decide +kernel
theorem dX12_paper_132 : decode cX12_paper 132 = .ok (.putfield 275, 3) := by decide +kernel
theorem dX12_paper_135 : decode cX12_paper 135 = .ok (.aload_n 0, 1) := by decide +kernel
theorem dX12_paper_136 : decode cX12_paper 136 = .ok (.getfield 275, 3) := by decide +kernel
theorem dX12_paper_139 : decode cX12_paper 139 = .ok (.iconst 1, 1) := by decide +kernel
theorem dX12_paper_140 : decode cX12_paper 140 = .ok (.isub, 1) := by decide +kernel
theorem dX12_paper_141 : decode cX12_paper 141 = .ok (.ireturn, 1) := by decide +kernel
theorem dX12_untell_0 : decode cX12_untell 0 = .ok (.iload_n 1, 1) := by decide +kernel
theorem dX12_untell_1 : decode cX12_untell 1 = .ok (.iconst 0, 1) := by decide +kernel
theorem dX12_untell_2 : decode cX12_untell 2 = .ok (.aload_n 0, 1) := by decide +kernel
theorem dX12_untell_3 : decode cX12_untell 3 = .ok (.getfield 275, 3) := by decide +kernel
theorem dX12_untell_6 : decode cX12_untell 6 = .ok (.iconst 1, 1) := by decide +kernel
theorem dX12_untell_7 : decode cX12_untell 7 = .ok (.isub, 1) := by decide +kernel
theorem dX12_untell_8 : decode cX12_untell 8 = .ok (.invokestatic 402, 3) := by decide +kernel
theorem dX12_untell_11 : decode cX12_untell 11 = .ok (.ifCond .eq 12, 3) := by decide +kernel
theorem dX12_untell_14 : decode cX12_untell 14 = .ok (.aload_n 0, 1) := by decide +kernel
theorem dX12_untell_15 : decode cX12_untell 15 = .ok (.getfield 110, 3) := by decide +kernel
theorem dX12_untell_18 : decode cX12_untell 18 = .ok (.iload_n 1, 1) := by decide +kernel
theorem dX12_untell_19 : decode cX12_untell 19 = .ok (.iaload, 1) := by decide +kernel
theorem dX12_untell_20 : decode cX12_untell 20 = .ok (.ifCond .lt 5, 3) := by decide +kernel
theorem dX12_untell_23 : decode cX12_untell 23 = .ok (.iconst 0, 1) := by decide +kernel
theorem dX12_untell_24 : decode cX12_untell 24 = .ok (.ireturn, 1) := by decide +kernel
theorem dX12_untell_25 : decode cX12_untell 25 = .ok (.aload_n 0, 1) := by decide +kernel
theorem dX12_untell_26 : decode cX12_untell 26 = .ok (.getfield 110, 3) := by decide +kernel
theorem dX12_untell_29 : decode cX12_untell 29 = .ok (.iload_n 1, 1) := by decide +kernel
theorem dX12_untell_30 : decode cX12_untell 30 = .ok (.aload_n 0, 1) := by decide +kernel
theorem dX12_untell_31 : decode cX12_untell 31 = .ok (.getfield 458, 3) := by decide +kernel
theorem dX12_untell_34 : decode cX12_untell 34 = .ok (.iastore, 1) := by decide +kernel
theorem dX12_untell_35 : decode cX12_untell 35 = .ok (.iconst 1, 1) := by decide +kernel
theorem dX12_untell_36 : decode cX12_untell 36 = .ok (.ireturn, 1) := by decide +kernel
theorem dX12_later_0 : decode cX12_later 0 = .ok (.iload_n 1, 1) := by decide +kernel
theorem dX12_later_1 : decode cX12_later 1 = .ok (.iconst 0, 1) := by decide +kernel
theorem dX12_later_2 : decode cX12_later 2 = .ok (.sipush 1000, 3) := by decide +kernel
theorem dX12_later_5 : decode cX12_later 5 = .ok (.invokestatic 402, 3) := by decide +kernel
theorem dX12_later_8 : decode cX12_later 8 = .ok (.ifCond .eq 15, 3) := by decide +kernel
theorem dX12_later_11 : decode cX12_later 11 = .ok (.aload_n 0, 1) := by decide +kernel
theorem dX12_later_12 : decode cX12_later 12 = .ok (.getfield 458, 3) := by decide +kernel
theorem dX12_later_15 : decode cX12_later 15 = .ok (.iload_n 1, 1) := by decide +kernel
theorem dX12_later_16 : decode cX12_later 16 = .ok (.iadd, 1) := by decide +kernel
theorem dX12_later_17 : decode cX12_later 17 = .ok (.ldc_w 461, 3) := by decide +kernel
theorem dX12_later_20 : decode cX12_later 20 = .ok (.if_icmp .le 5, 3) := by decide +kernel
theorem dX12_later_23 : decode cX12_later 23 = .ok (.iconst (-1), 1) := by decide +kernel
theorem dX12_later_24 : decode cX12_later 24 = .ok (.ireturn, 1) := by decide +kernel
theorem dX12_later_25 : decode cX12_later 25 = .ok (.aload_n 0, 1) := by decide +kernel
theorem dX12_later_26 : decode cX12_later 26 = .ok (.dup, 1) := by decide +kernel
theorem dX12_later_27 : decode cX12_later 27 = .ok (.getfield 458, 3) := by decide +kernel
theorem dX12_later_30 : decode cX12_later 30 = .ok (.iload_n 1, 1) := by decide +kernel
theorem dX12_later_31 : decode cX12_later 31 = .ok (.iadd, 1) := by decide +kernel
theorem dX12_later_32 : decode cX12_later 32 = .ok (.putfield 458, 3) := by decide +kernel
theorem dX12_later_35 : decode cX12_later 35 = .ok (.aload_n 0, 1) := by decide +kernel
theorem dX12_later_36 : decode cX12_later 36 = .ok (.getfield 458, 3) := by decide +kernel
theorem dX12_later_39 : decode cX12_later 39 = .ok (.ireturn, 1) := by decide +kernel
theorem dX12_counts_0 : decode cX12_counts 0 = .ok (.iload_n 1, 1) := by decide +kernel
theorem dX12_counts_1 : decode cX12_counts 1 = .ok (.iconst 0, 1) := by decide +kernel
theorem dX12_counts_2 : decode cX12_counts 2 = .ok (.aload_n 0, 1) := by decide +kernel
theorem dX12_counts_3 : decode cX12_counts 3 = .ok (.getfield 275, 3) := by decide +kernel
theorem dX12_counts_6 : decode cX12_counts 6 = .ok (.iconst 1, 1) := by decide +kernel
theorem dX12_counts_7 : decode cX12_counts 7 = .ok (.isub, 1) := by decide +kernel
theorem dX12_counts_8 : decode cX12_counts 8 = .ok (.invokestatic 402, 3) := by decide +kernel
theorem dX12_counts_11 : decode cX12_counts 11 = .ok (.ifCond .eq 36, 3) := by decide +kernel
theorem dX12_counts_14 : decode cX12_counts 14 = .ok (.aload_n 0, 1) := by decide +kernel
theorem dX12_counts_15 : decode cX12_counts 15 = .ok (.getfield 107, 3) := by decide +kernel
theorem dX12_counts_18 : decode cX12_counts 18 = .ok (.iload_n 1, 1) := by decide +kernel
theorem dX12_counts_19 : decode cX12_counts 19 = .ok (.iaload, 1) := by decide +kernel
theorem dX12_counts_20 : decode cX12_counts 20 = .ok (.iload_n 2, 1) := by decide +kernel
theorem dX12_counts_21 : decode cX12_counts 21 = .ok (.if_icmp .gt 26, 3) := by decide +kernel
theorem dX12_counts_24 : decode cX12_counts 24 = .ok (.aload_n 0, 1) := by decide +kernel
theorem dX12_counts_25 : decode cX12_counts 25 = .ok (.getfield 110, 3) := by decide +kernel
theorem dX12_counts_28 : decode cX12_counts 28 = .ok (.iload_n 1, 1) := by decide +kernel
theorem dX12_counts_29 : decode cX12_counts 29 = .ok (.iaload, 1) := by decide +kernel
theorem dX12_counts_30 : decode cX12_counts 30 = .ok (.ifCond .lt 13, 3) := by decide +kernel
theorem dX12_counts_33 : decode cX12_counts 33 = .ok (.aload_n 0, 1) := by decide +kernel
theorem dX12_counts_34 : decode cX12_counts 34 = .ok (.getfield 110, 3) := by decide +kernel
theorem dX12_counts_37 : decode cX12_counts 37 = .ok (.iload_n 1, 1) := by decide +kernel
theorem dX12_counts_38 : decode cX12_counts 38 = .ok (.iaload, 1) := by decide +kernel
theorem dX12_counts_39 : decode cX12_counts 39 = .ok (.iload_n 2, 1) := by decide +kernel
theorem dX12_counts_40 : decode cX12_counts 40 = .ok (.if_icmp .le 7, 3) := by decide +kernel
theorem dX12_counts_43 : decode cX12_counts 43 = .ok (.iconst 1, 1) := by decide +kernel
theorem dX12_counts_44 : decode cX12_counts 44 = .ok (.goto 4, 3) := by decide +kernel
theorem dX12_counts_47 : decode cX12_counts 47 = .ok (.iconst 0, 1) := by decide +kernel
theorem dX12_counts_48 : decode cX12_counts 48 = .ok (.ireturn, 1) := by decide +kernel
theorem dX12_printerOf_0 : decode cX12_printerOf 0 = .ok (.aload_n 0, 1) := by decide +kernel
theorem dX12_printerOf_1 : decode cX12_printerOf 1 = .ok (.getfield 104, 3) := by decide +kernel
theorem dX12_printerOf_4 : decode cX12_printerOf 4 = .ok (.iload_n 1, 1) := by decide +kernel
theorem dX12_printerOf_5 : decode cX12_printerOf 5 = .ok (.iaload, 1) := by decide +kernel
theorem dX12_printerOf_6 : decode cX12_printerOf 6 = .ok (.bipush 10, 2) := by decide +kernel
theorem dX12_printerOf_8 : decode cX12_printerOf 8 = .ok (.idiv, 1) := by decide +kernel
theorem dX12_printerOf_9 : decode cX12_printerOf 9 = .ok (.bipush 10, 2) := by decide +kernel
theorem dX12_printerOf_11 : decode cX12_printerOf 11 = .ok (.irem, 1) := by decide +kernel
theorem dX12_printerOf_12 : decode cX12_printerOf 12 = .ok (.ireturn, 1) := by decide +kernel
theorem dX12_layPaper_0 : decode cX12_layPaper 0 = .ok (.aload_n 0, 1) := by decide +kernel
theorem dX12_layPaper_1 : decode cX12_layPaper 1 = .ok (.aload_n 0, 1) := by decide +kernel
theorem dX12_layPaper_2 : decode cX12_layPaper 2 = .ok (.getfield 95, 3) := by decide +kernel
theorem dX12_layPaper_5 : decode cX12_layPaper 5 = .ok (.iload_n 1, 1) := by decide +kernel
theorem dX12_layPaper_6 : decode cX12_layPaper 6 = .ok (.iaload, 1) := by decide +kernel
theorem dX12_layPaper_7 : decode cX12_layPaper 7 = .ok (.aload_n 0, 1) := by decide +kernel
theorem dX12_layPaper_8 : decode cX12_layPaper 8 = .ok (.getfield 98, 3) := by decide +kernel
theorem dX12_layPaper_11 : decode cX12_layPaper 11 = .ok (.iload_n 1, 1) := by decide +kernel
theorem dX12_layPaper_12 : decode cX12_layPaper 12 = .ok (.iaload, 1) := by decide +kernel
theorem dX12_layPaper_13 : decode cX12_layPaper 13 = .ok (.aload_n 0, 1) := by decide +kernel
theorem dX12_layPaper_14 : decode cX12_layPaper 14 = .ok (.getfield 101, 3) := by decide +kernel
theorem dX12_layPaper_17 : decode cX12_layPaper 17 = .ok (.iload_n 1, 1) := by decide +kernel
theorem dX12_layPaper_18 : decode cX12_layPaper 18 = .ok (.iaload, 1) := by decide +kernel
theorem dX12_layPaper_19 : decode cX12_layPaper 19 = .ok (.aload_n 0, 1) := by decide +kernel
theorem dX12_layPaper_20 : decode cX12_layPaper 20 = .ok (.iload_n 1, 1) := by decide +kernel
theorem dX12_layPaper_21 : decode cX12_layPaper 21 = .ok (.invokevirtual 462, 3) := by decide +kernel
theorem dX12_layPaper_24 : decode cX12_layPaper 24 = .ok (.invokevirtual 427, 3) := by decide +kernel
theorem dX12_layPaper_27 : decode cX12_layPaper 27 = .ok (.return_, 1) := by decide +kernel
theorem dX12_leastBy_0 : decode cX12_leastBy 0 = .ok (.ldc_w 461, 3) := by decide +kernel
theorem dX12_leastBy_3 : decode cX12_leastBy 3 = .ok (.istore_n 3, 1) := by decide +kernel
theorem dX12_leastBy_4 : decode cX12_leastBy 4 = .ok (.iconst 1, 1) := by decide +kernel
theorem dX12_leastBy_5 : decode cX12_leastBy 5 = .ok (.istore 4, 2) := by decide +kernel
theorem dX12_leastBy_7 : decode cX12_leastBy 7 = .ok (.iload 4, 2) := by decide +kernel
theorem dX12_leastBy_9 : decode cX12_leastBy 9 = .ok (.bipush 9, 2) := by decide +kernel
theorem dX12_leastBy_11 : decode cX12_leastBy 11 = .ok (.if_icmp .gt 51, 3) := by decide +kernel
theorem dX12_leastBy_14 : decode cX12_leastBy 14 = .ok (.aload_n 0, 1) := by decide +kernel
theorem dX12_leastBy_15 : decode cX12_leastBy 15 = .ok (.aload_n 0, 1) := by decide +kernel
theorem dX12_leastBy_16 : decode cX12_leastBy 16 = .ok (.getfield 95, 3) := by decide +kernel
theorem dX12_leastBy_19 : decode cX12_leastBy 19 = .ok (.iload_n 1, 1) := by decide +kernel
theorem dX12_leastBy_20 : decode cX12_leastBy 20 = .ok (.iaload, 1) := by decide +kernel
theorem dX12_leastBy_21 : decode cX12_leastBy 21 = .ok (.iload_n 2, 1) := by decide +kernel
theorem dX12_leastBy_22 : decode cX12_leastBy 22 = .ok (.iload 4, 2) := by decide +kernel
theorem dX12_leastBy_24 : decode cX12_leastBy 24 = .ok (.aload_n 0, 1) := by decide +kernel
theorem dX12_leastBy_25 : decode cX12_leastBy 25 = .ok (.iload_n 1, 1) := by decide +kernel
theorem dX12_leastBy_26 : decode cX12_leastBy 26 = .ok (.invokevirtual 462, 3) := by decide +kernel
theorem dX12_leastBy_29 : decode cX12_leastBy 29 = .ok (.invokevirtual 427, 3) := by decide +kernel
theorem dX12_leastBy_32 : decode cX12_leastBy 32 = .ok (.aload_n 0, 1) := by decide +kernel
theorem dX12_leastBy_33 : decode cX12_leastBy 33 = .ok (.invokevirtual 465, 3) := by decide +kernel
theorem dX12_leastBy_36 : decode cX12_leastBy 36 = .ok (.istore 5, 2) := by decide +kernel
theorem dX12_leastBy_38 : decode cX12_leastBy 38 = .ok (.iload 5, 2) := by decide +kernel
theorem dX12_leastBy_40 : decode cX12_leastBy 40 = .ok (.iload_n 3, 1) := by decide +kernel
theorem dX12_leastBy_41 : decode cX12_leastBy 41 = .ok (.if_icmp .lt 6, 3) := by decide +kernel
theorem dX12_leastBy_44 : decode cX12_leastBy 44 = .ok (.goto 12, 3) := by decide +kernel
theorem dX12_leastBy_47 : decode cX12_leastBy 47 = .ok (.iload 5, 2) := by decide +kernel
theorem dX12_leastBy_49 : decode cX12_leastBy 49 = .ok (.istore_n 3, 1) := by decide +kernel
theorem dX12_leastBy_50 : decode cX12_leastBy 50 = .ok (.aload_n 0, 1) := by decide +kernel
theorem dX12_leastBy_51 : decode cX12_leastBy 51 = .ok (.iload 4, 2) := by decide +kernel
theorem dX12_leastBy_53 : decode cX12_leastBy 53 = .ok (.putfield 468, 3) := by decide +kernel
theorem dX12_leastBy_56 : decode cX12_leastBy 56 = .ok (.iinc 4 1, 3) := by decide +kernel
theorem dX12_leastBy_59 : decode cX12_leastBy 59 = .ok (.goto (-52), 3) := by decide +kernel
theorem dX12_leastBy_62 : decode cX12_leastBy 62 = .ok (.iload_n 3, 1) := by decide +kernel
theorem dX12_leastBy_63 : decode cX12_leastBy 63 = .ok (.ireturn, 1) := by decide +kernel
theorem dX12_findBehind_0 : decode cX12_findBehind 0 = .ok (.aload_n 0, 1) := by decide +kernel
theorem dX12_findBehind_1 : decode cX12_findBehind 1 = .ok (.iload_n 1, 1) := by decide +kernel
theorem dX12_findBehind_2 : decode cX12_findBehind 2 = .ok (.invokevirtual 471, 3) := by decide +kernel
theorem dX12_findBehind_5 : decode cX12_findBehind 5 = .ok (.aload_n 0, 1) := by decide +kernel
theorem dX12_findBehind_6 : decode cX12_findBehind 6 = .ok (.invokevirtual 475, 3) := by decide +kernel
theorem dX12_findBehind_9 : decode cX12_findBehind 9 = .ok (.aload_n 0, 1) := by decide +kernel
theorem dX12_findBehind_10 : decode cX12_findBehind 10 = .ok (.iconst (-1), 1) := by decide +kernel
theorem dX12_findBehind_11 : decode cX12_findBehind 11 = .ok (.putfield 478, 3) := by decide +kernel
theorem dX12_findBehind_14 : decode cX12_findBehind 14 = .ok (.aload_n 0, 1) := by decide +kernel
theorem dX12_findBehind_15 : decode cX12_findBehind 15 = .ok (.ldc_w 461, 3) := by decide +kernel
theorem dX12_findBehind_18 : decode cX12_findBehind 18 = .ok (.putfield 481, 3) := by decide +kernel
theorem dX12_findBehind_21 : decode cX12_findBehind 21 = .ok (.iconst 0, 1) := by decide +kernel
theorem dX12_findBehind_22 : decode cX12_findBehind 22 = .ok (.istore_n 2, 1) := by decide +kernel
theorem dX12_findBehind_23 : decode cX12_findBehind 23 = .ok (.iload_n 2, 1) := by decide +kernel
theorem dX12_findBehind_24 : decode cX12_findBehind 24 = .ok (.aload_n 0, 1) := by decide +kernel
theorem dX12_findBehind_25 : decode cX12_findBehind 25 = .ok (.invokevirtual 399, 3) := by decide +kernel
theorem dX12_findBehind_28 : decode cX12_findBehind 28 = .ok (.if_icmp .ge 50, 3) := by decide +kernel
theorem dX12_findBehind_31 : decode cX12_findBehind 31 = .ok (.iload_n 2, 1) := by decide +kernel
theorem dX12_findBehind_32 : decode cX12_findBehind 32 = .ok (.aload_n 0, 1) := by decide +kernel
theorem dX12_findBehind_33 : decode cX12_findBehind 33 = .ok (.getfield 95, 3) := by decide +kernel
theorem dX12_findBehind_36 : decode cX12_findBehind 36 = .ok (.iload_n 1, 1) := by decide +kernel
theorem dX12_findBehind_37 : decode cX12_findBehind 37 = .ok (.iaload, 1) := by decide +kernel
theorem dX12_findBehind_38 : decode cX12_findBehind 38 = .ok (.if_icmp .ne 6, 3) := by decide +kernel
theorem dX12_findBehind_41 : decode cX12_findBehind 41 = .ok (.goto 31, 3) := by decide +kernel
theorem dX12_findBehind_44 : decode cX12_findBehind 44 = .ok (.aload_n 0, 1) := by decide +kernel
theorem dX12_findBehind_45 : decode cX12_findBehind 45 = .ok (.iload_n 1, 1) := by decide +kernel
theorem dX12_findBehind_46 : decode cX12_findBehind 46 = .ok (.iload_n 2, 1) := by decide +kernel
theorem dX12_findBehind_47 : decode cX12_findBehind 47 = .ok (.invokevirtual 484, 3) := by decide +kernel
theorem dX12_findBehind_50 : decode cX12_findBehind 50 = .ok (.istore_n 3, 1) := by decide +kernel
theorem dX12_findBehind_51 : decode cX12_findBehind 51 = .ok (.iload_n 3, 1) := by decide +kernel
theorem dX12_findBehind_52 : decode cX12_findBehind 52 = .ok (.aload_n 0, 1) := by decide +kernel
theorem dX12_findBehind_53 : decode cX12_findBehind 53 = .ok (.getfield 481, 3) := by decide +kernel
theorem dX12_findBehind_56 : decode cX12_findBehind 56 = .ok (.if_icmp .lt 6, 3) := by decide +kernel
theorem dX12_findBehind_59 : decode cX12_findBehind 59 = .ok (.goto 13, 3) := by decide +kernel
theorem dX12_findBehind_62 : decode cX12_findBehind 62 = .ok (.aload_n 0, 1) := by decide +kernel
theorem dX12_findBehind_63 : decode cX12_findBehind 63 = .ok (.iload_n 2, 1) := by decide +kernel
theorem dX12_findBehind_64 : decode cX12_findBehind 64 = .ok (.putfield 478, 3) := by decide +kernel
theorem dX12_findBehind_67 : decode cX12_findBehind 67 = .ok (.aload_n 0, 1) := by decide +kernel
theorem dX12_findBehind_68 : decode cX12_findBehind 68 = .ok (.iload_n 3, 1) := by decide +kernel
theorem dX12_findBehind_69 : decode cX12_findBehind 69 = .ok (.putfield 481, 3) := by decide +kernel
theorem dX12_findBehind_72 : decode cX12_findBehind 72 = .ok (.iinc 2 1, 3) := by decide +kernel
theorem dX12_findBehind_75 : decode cX12_findBehind 75 = .ok (.goto (-52), 3) := by decide +kernel
theorem dX12_findBehind_78 : decode cX12_findBehind 78 = .ok (.aload_n 0, 1) := by decide +kernel
theorem dX12_findBehind_79 : decode cX12_findBehind 79 = .ok (.getfield 478, 3) := by decide +kernel
theorem dX12_findBehind_82 : decode cX12_findBehind 82 = .ok (.ifCond .lt 16, 3) := by decide +kernel
theorem dX12_findBehind_85 : decode cX12_findBehind 85 = .ok (.aload_n 0, 1) := by decide +kernel
theorem dX12_findBehind_86 : decode cX12_findBehind 86 = .ok (.aload_n 0, 1) := by decide +kernel
theorem dX12_findBehind_87 : decode cX12_findBehind 87 = .ok (.iload_n 1, 1) := by decide +kernel
theorem dX12_findBehind_88 : decode cX12_findBehind 88 = .ok (.aload_n 0, 1) := by decide +kernel
theorem dX12_findBehind_89 : decode cX12_findBehind 89 = .ok (.getfield 478, 3) := by decide +kernel
theorem dX12_findBehind_92 : decode cX12_findBehind 92 = .ok (.invokevirtual 484, 3) := by decide +kernel
theorem dX12_findBehind_95 : decode cX12_findBehind 95 = .ok (.putfield 481, 3) := by decide +kernel
theorem dX12_findBehind_98 : decode cX12_findBehind 98 = .ok (.aload_n 0, 1) := by decide +kernel
theorem dX12_findBehind_99 : decode cX12_findBehind 99 = .ok (.getfield 478, 3) := by decide +kernel
theorem dX12_findBehind_102 : decode cX12_findBehind 102 = .ok (.ifCond .lt 7, 3) := by decide +kernel
theorem dX12_findBehind_105 : decode cX12_findBehind 105 = .ok (.iconst 1, 1) := by decide +kernel
theorem dX12_findBehind_106 : decode cX12_findBehind 106 = .ok (.goto 4, 3) := by decide +kernel
theorem dX12_findBehind_109 : decode cX12_findBehind 109 = .ok (.iconst 0, 1) := by decide +kernel
theorem dX12_findBehind_110 : decode cX12_findBehind 110 = .ok (.ireturn, 1) := by decide +kernel
theorem dX12_isTold_0 : decode cX12_isTold 0 = .ok (.aload_n 0, 1) := by decide +kernel
theorem dX12_isTold_1 : decode cX12_isTold 1 = .ok (.getfield 481, 3) := by decide +kernel
theorem dX12_isTold_4 : decode cX12_isTold 4 = .ok (.aload_n 0, 1) := by decide +kernel
theorem dX12_isTold_5 : decode cX12_isTold 5 = .ok (.getfield 30, 3) := by decide +kernel
theorem dX12_isTold_8 : decode cX12_isTold 8 = .ok (.aload_n 0, 1) := by decide +kernel
theorem dX12_isTold_9 : decode cX12_isTold 9 = .ok (.getfield 269, 3) := by decide +kernel
theorem dX12_isTold_12 : decode cX12_isTold 12 = .ok (.iaload, 1) := by decide +kernel
theorem dX12_isTold_13 : decode cX12_isTold 13 = .ok (.iadd, 1) := by decide +kernel
theorem dX12_isTold_14 : decode cX12_isTold 14 = .ok (.istore_n 2, 1) := by decide +kernel
theorem dX12_isTold_15 : decode cX12_isTold 15 = .ok (.iconst 0, 1) := by decide +kernel
theorem dX12_isTold_16 : decode cX12_isTold 16 = .ok (.istore_n 3, 1) := by decide +kernel
theorem dX12_isTold_17 : decode cX12_isTold 17 = .ok (.iload_n 3, 1) := by decide +kernel
theorem dX12_isTold_18 : decode cX12_isTold 18 = .ok (.aload_n 0, 1) := by decide +kernel
theorem dX12_isTold_19 : decode cX12_isTold 19 = .ok (.invokevirtual 399, 3) := by decide +kernel
theorem dX12_isTold_22 : decode cX12_isTold 22 = .ok (.if_icmp .ge 39, 3) := by decide +kernel
theorem dX12_isTold_25 : decode cX12_isTold 25 = .ok (.iload_n 3, 1) := by decide +kernel
theorem dX12_isTold_26 : decode cX12_isTold 26 = .ok (.aload_n 0, 1) := by decide +kernel
theorem dX12_isTold_27 : decode cX12_isTold 27 = .ok (.getfield 95, 3) := by decide +kernel
theorem dX12_isTold_30 : decode cX12_isTold 30 = .ok (.iload_n 1, 1) := by decide +kernel
theorem dX12_isTold_31 : decode cX12_isTold 31 = .ok (.iaload, 1) := by decide +kernel
theorem dX12_isTold_32 : decode cX12_isTold 32 = .ok (.if_icmp .eq 23, 3) := by decide +kernel
theorem dX12_isTold_35 : decode cX12_isTold 35 = .ok (.iload_n 3, 1) := by decide +kernel
theorem dX12_isTold_36 : decode cX12_isTold 36 = .ok (.aload_n 0, 1) := by decide +kernel
theorem dX12_isTold_37 : decode cX12_isTold 37 = .ok (.getfield 478, 3) := by decide +kernel
theorem dX12_isTold_40 : decode cX12_isTold 40 = .ok (.if_icmp .eq 15, 3) := by decide +kernel
theorem dX12_isTold_43 : decode cX12_isTold 43 = .ok (.iload_n 2, 1) := by decide +kernel
theorem dX12_isTold_44 : decode cX12_isTold 44 = .ok (.aload_n 0, 1) := by decide +kernel
theorem dX12_isTold_45 : decode cX12_isTold 45 = .ok (.iload_n 1, 1) := by decide +kernel
theorem dX12_isTold_46 : decode cX12_isTold 46 = .ok (.iload_n 3, 1) := by decide +kernel
theorem dX12_isTold_47 : decode cX12_isTold 47 = .ok (.invokevirtual 484, 3) := by decide +kernel
theorem dX12_isTold_50 : decode cX12_isTold 50 = .ok (.if_icmp .lt 5, 3) := by decide +kernel
theorem dX12_isTold_53 : decode cX12_isTold 53 = .ok (.iconst 0, 1) := by decide +kernel
theorem dX12_isTold_54 : decode cX12_isTold 54 = .ok (.ireturn, 1) := by decide +kernel
theorem dX12_isTold_55 : decode cX12_isTold 55 = .ok (.iinc 3 1, 3) := by decide +kernel
theorem dX12_isTold_58 : decode cX12_isTold 58 = .ok (.goto (-41), 3) := by decide +kernel
theorem dX12_isTold_61 : decode cX12_isTold 61 = .ok (.aload_n 0, 1) := by decide +kernel
theorem dX12_isTold_62 : decode cX12_isTold 62 = .ok (.aload_n 0, 1) := by decide +kernel
theorem dX12_isTold_63 : decode cX12_isTold 63 = .ok (.getfield 95, 3) := by decide +kernel
theorem dX12_isTold_66 : decode cX12_isTold 66 = .ok (.iload_n 1, 1) := by decide +kernel
theorem dX12_isTold_67 : decode cX12_isTold 67 = .ok (.iaload, 1) := by decide +kernel
theorem dX12_isTold_68 : decode cX12_isTold 68 = .ok (.aload_n 0, 1) := by decide +kernel
theorem dX12_isTold_69 : decode cX12_isTold 69 = .ok (.getfield 95, 3) := by decide +kernel
theorem dX12_isTold_72 : decode cX12_isTold 72 = .ok (.iload_n 1, 1) := by decide +kernel
theorem dX12_isTold_73 : decode cX12_isTold 73 = .ok (.iaload, 1) := by decide +kernel
theorem dX12_isTold_74 : decode cX12_isTold 74 = .ok (.bipush 10, 2) := by decide +kernel
theorem dX12_isTold_76 : decode cX12_isTold 76 = .ok (.aload_n 0, 1) := by decide +kernel
theorem dX12_isTold_77 : decode cX12_isTold 77 = .ok (.iload_n 1, 1) := by decide +kernel
theorem dX12_isTold_78 : decode cX12_isTold 78 = .ok (.invokevirtual 462, 3) := by decide +kernel
theorem dX12_isTold_81 : decode cX12_isTold 81 = .ok (.invokevirtual 427, 3) := by decide +kernel
theorem dX12_isTold_84 : decode cX12_isTold 84 = .ok (.iload_n 2, 1) := by decide +kernel
theorem dX12_isTold_85 : decode cX12_isTold 85 = .ok (.aload_n 0, 1) := by decide +kernel
theorem dX12_isTold_86 : decode cX12_isTold 86 = .ok (.invokevirtual 465, 3) := by decide +kernel
theorem dX12_isTold_89 : decode cX12_isTold 89 = .ok (.if_icmp .ge 7, 3) := by decide +kernel
theorem dX12_isTold_92 : decode cX12_isTold 92 = .ok (.iconst 1, 1) := by decide +kernel
theorem dX12_isTold_93 : decode cX12_isTold 93 = .ok (.goto 4, 3) := by decide +kernel
theorem dX12_isTold_96 : decode cX12_isTold 96 = .ok (.iconst 0, 1) := by decide +kernel
theorem dX12_isTold_97 : decode cX12_isTold 97 = .ok (.ireturn, 1) := by decide +kernel
theorem dX12_behind_0 : decode cX12_behind 0 = .ok (.aload_n 0, 1) := by decide +kernel
theorem dX12_behind_1 : decode cX12_behind 1 = .ok (.iload_n 1, 1) := by decide +kernel
theorem dX12_behind_2 : decode cX12_behind 2 = .ok (.iload_n 3, 1) := by decide +kernel
theorem dX12_behind_3 : decode cX12_behind 3 = .ok (.invokevirtual 487, 3) := by decide +kernel
theorem dX12_behind_6 : decode cX12_behind 6 = .ok (.ifCond .eq 20, 3) := by decide +kernel
theorem dX12_behind_9 : decode cX12_behind 9 = .ok (.iload_n 2, 1) := by decide +kernel
theorem dX12_behind_10 : decode cX12_behind 10 = .ok (.iconst 0, 1) := by decide +kernel
theorem dX12_behind_11 : decode cX12_behind 11 = .ok (.iconst 3, 1) := by decide +kernel
theorem dX12_behind_12 : decode cX12_behind 12 = .ok (.invokestatic 402, 3) := by decide +kernel
theorem dX12_behind_15 : decode cX12_behind 15 = .ok (.ifCond .eq 11, 3) := by decide +kernel
theorem dX12_behind_18 : decode cX12_behind 18 = .ok (.aload_n 0, 1) := by decide +kernel
theorem dX12_behind_19 : decode cX12_behind 19 = .ok (.iload_n 1, 1) := by decide +kernel
theorem dX12_behind_20 : decode cX12_behind 20 = .ok (.invokevirtual 490, 3) := by decide +kernel
theorem dX12_behind_23 : decode cX12_behind 23 = .ok (.ifCond .ne 5, 3) := by decide +kernel
theorem dX12_behind_26 : decode cX12_behind 26 = .ok (.iconst (-1), 1) := by decide +kernel
theorem dX12_behind_27 : decode cX12_behind 27 = .ok (.ireturn, 1) := by decide +kernel
theorem dX12_behind_28 : decode cX12_behind 28 = .ok (.iload_n 2, 1) := by decide +kernel
theorem dX12_behind_29 : decode cX12_behind 29 = .ok (.ifCond .ne 10, 3) := by decide +kernel
theorem dX12_behind_32 : decode cX12_behind 32 = .ok (.aload_n 0, 1) := by decide +kernel
theorem dX12_behind_33 : decode cX12_behind 33 = .ok (.getfield 478, 3) := by decide +kernel
theorem dX12_behind_36 : decode cX12_behind 36 = .ok (.goto 40, 3) := by decide +kernel
theorem dX12_behind_39 : decode cX12_behind 39 = .ok (.iload_n 2, 1) := by decide +kernel
theorem dX12_behind_40 : decode cX12_behind 40 = .ok (.iconst 1, 1) := by decide +kernel
theorem dX12_behind_41 : decode cX12_behind 41 = .ok (.if_icmp .ne 10, 3) := by decide +kernel
theorem dX12_behind_44 : decode cX12_behind 44 = .ok (.aload_n 0, 1) := by decide +kernel
theorem dX12_behind_45 : decode cX12_behind 45 = .ok (.getfield 468, 3) := by decide +kernel
theorem dX12_behind_48 : decode cX12_behind 48 = .ok (.goto 28, 3) := by decide +kernel
theorem dX12_behind_51 : decode cX12_behind 51 = .ok (.iload_n 2, 1) := by decide +kernel
theorem dX12_behind_52 : decode cX12_behind 52 = .ok (.iconst 2, 1) := by decide +kernel
theorem dX12_behind_53 : decode cX12_behind 53 = .ok (.if_icmp .ne 10, 3) := by decide +kernel
theorem dX12_behind_56 : decode cX12_behind 56 = .ok (.aload_n 0, 1) := by decide +kernel
theorem dX12_behind_57 : decode cX12_behind 57 = .ok (.getfield 481, 3) := by decide +kernel
theorem dX12_behind_60 : decode cX12_behind 60 = .ok (.goto 16, 3) := by decide +kernel
theorem dX12_behind_63 : decode cX12_behind 63 = .ok (.aload_n 0, 1) := by decide +kernel
theorem dX12_behind_64 : decode cX12_behind 64 = .ok (.iload_n 1, 1) := by decide +kernel
theorem dX12_behind_65 : decode cX12_behind 65 = .ok (.invokevirtual 493, 3) := by decide +kernel
theorem dX12_behind_68 : decode cX12_behind 68 = .ok (.ifCond .eq 7, 3) := by decide +kernel
theorem dX12_behind_71 : decode cX12_behind 71 = .ok (.iconst 1, 1) := by decide +kernel
theorem dX12_behind_72 : decode cX12_behind 72 = .ok (.goto 4, 3) := by decide +kernel
theorem dX12_behind_75 : decode cX12_behind 75 = .ok (.iconst 0, 1) := by decide +kernel
theorem dX12_behind_76 : decode cX12_behind 76 = .ok (.ireturn, 1) := by decide +kernel
theorem dX12_hangs_0 : decode cX12_hangs 0 = .ok (.aload_n 0, 1) := by decide +kernel
theorem dX12_hangs_1 : decode cX12_hangs 1 = .ok (.getfield 104, 3) := by decide +kernel
theorem dX12_hangs_4 : decode cX12_hangs 4 = .ok (.iload_n 1, 1) := by decide +kernel
theorem dX12_hangs_5 : decode cX12_hangs 5 = .ok (.iaload, 1) := by decide +kernel
theorem dX12_hangs_6 : decode cX12_hangs 6 = .ok (.bipush 100, 2) := by decide +kernel
theorem dX12_hangs_8 : decode cX12_hangs 8 = .ok (.irem, 1) := by decide +kernel
theorem dX12_hangs_9 : decode cX12_hangs 9 = .ok (.aload_n 0, 1) := by decide +kernel
theorem dX12_hangs_10 : decode cX12_hangs 10 = .ok (.getfield 104, 3) := by decide +kernel
theorem dX12_hangs_13 : decode cX12_hangs 13 = .ok (.iload_n 2, 1) := by decide +kernel
theorem dX12_hangs_14 : decode cX12_hangs 14 = .ok (.iaload, 1) := by decide +kernel
theorem dX12_hangs_15 : decode cX12_hangs 15 = .ok (.bipush 100, 2) := by decide +kernel
theorem dX12_hangs_17 : decode cX12_hangs 17 = .ok (.irem, 1) := by decide +kernel
theorem dX12_hangs_18 : decode cX12_hangs 18 = .ok (.if_icmp .ne 33, 3) := by decide +kernel
theorem dX12_hangs_21 : decode cX12_hangs 21 = .ok (.aload_n 0, 1) := by decide +kernel
theorem dX12_hangs_22 : decode cX12_hangs 22 = .ok (.getfield 104, 3) := by decide +kernel
theorem dX12_hangs_25 : decode cX12_hangs 25 = .ok (.iload_n 1, 1) := by decide +kernel
theorem dX12_hangs_26 : decode cX12_hangs 26 = .ok (.iaload, 1) := by decide +kernel
theorem dX12_hangs_27 : decode cX12_hangs 27 = .ok (.bipush 100, 2) := by decide +kernel
theorem dX12_hangs_29 : decode cX12_hangs 29 = .ok (.idiv, 1) := by decide +kernel
theorem dX12_hangs_30 : decode cX12_hangs 30 = .ok (.aload_n 0, 1) := by decide +kernel
theorem dX12_hangs_31 : decode cX12_hangs 31 = .ok (.getfield 104, 3) := by decide +kernel
theorem dX12_hangs_34 : decode cX12_hangs 34 = .ok (.iload_n 2, 1) := by decide +kernel
theorem dX12_hangs_35 : decode cX12_hangs 35 = .ok (.iaload, 1) := by decide +kernel
theorem dX12_hangs_36 : decode cX12_hangs 36 = .ok (.bipush 100, 2) := by decide +kernel
theorem dX12_hangs_38 : decode cX12_hangs 38 = .ok (.idiv, 1) := by decide +kernel
theorem dX12_hangs_39 : decode cX12_hangs 39 = .ok (.isub, 1) := by decide +kernel
theorem dX12_hangs_40 : decode cX12_hangs 40 = .ok (.invokestatic 412, 3) := by decide +kernel
theorem dX12_hangs_43 : decode cX12_hangs 43 = .ok (.iconst 2, 1) := by decide +kernel
theorem dX12_hangs_44 : decode cX12_hangs 44 = .ok (.if_icmp .gt 7, 3) := by decide +kernel
theorem dX12_hangs_47 : decode cX12_hangs 47 = .ok (.iconst 1, 1) := by decide +kernel
theorem dX12_hangs_48 : decode cX12_hangs 48 = .ok (.goto 4, 3) := by decide +kernel
theorem dX12_hangs_51 : decode cX12_hangs 51 = .ok (.iconst 0, 1) := by decide +kernel
theorem dX12_hangs_52 : decode cX12_hangs 52 = .ok (.istore_n 3, 1) := by decide +kernel
theorem dX12_hangs_53 : decode cX12_hangs 53 = .ok (.iload_n 3, 1) := by decide +kernel
theorem dX12_hangs_54 : decode cX12_hangs 54 = .ok (.ifCond .ne 50, 3) := by decide +kernel
theorem dX12_hangs_57 : decode cX12_hangs 57 = .ok (.aload_n 0, 1) := by decide +kernel
theorem dX12_hangs_58 : decode cX12_hangs 58 = .ok (.getfield 95, 3) := by decide +kernel
theorem dX12_hangs_61 : decode cX12_hangs 61 = .ok (.iload_n 1, 1) := by decide +kernel
theorem dX12_hangs_62 : decode cX12_hangs 62 = .ok (.iaload, 1) := by decide +kernel
theorem dX12_hangs_63 : decode cX12_hangs 63 = .ok (.aload_n 0, 1) := by decide +kernel
theorem dX12_hangs_64 : decode cX12_hangs 64 = .ok (.getfield 95, 3) := by decide +kernel
theorem dX12_hangs_67 : decode cX12_hangs 67 = .ok (.iload_n 2, 1) := by decide +kernel
theorem dX12_hangs_68 : decode cX12_hangs 68 = .ok (.iaload, 1) := by decide +kernel
theorem dX12_hangs_69 : decode cX12_hangs 69 = .ok (.if_icmp .eq 35, 3) := by decide +kernel
theorem dX12_hangs_72 : decode cX12_hangs 72 = .ok (.aload_n 0, 1) := by decide +kernel
theorem dX12_hangs_73 : decode cX12_hangs 73 = .ok (.getfield 42, 3) := by decide +kernel
theorem dX12_hangs_76 : decode cX12_hangs 76 = .ok (.bipush 16, 2) := by decide +kernel
theorem dX12_hangs_78 : decode cX12_hangs 78 = .ok (.aload_n 0, 1) := by decide +kernel
theorem dX12_hangs_79 : decode cX12_hangs 79 = .ok (.getfield 269, 3) := by decide +kernel
theorem dX12_hangs_82 : decode cX12_hangs 82 = .ok (.imul, 1) := by decide +kernel
theorem dX12_hangs_83 : decode cX12_hangs 83 = .ok (.aload_n 0, 1) := by decide +kernel
theorem dX12_hangs_84 : decode cX12_hangs 84 = .ok (.getfield 95, 3) := by decide +kernel
theorem dX12_hangs_87 : decode cX12_hangs 87 = .ok (.iload_n 1, 1) := by decide +kernel
theorem dX12_hangs_88 : decode cX12_hangs 88 = .ok (.iaload, 1) := by decide +kernel
theorem dX12_hangs_89 : decode cX12_hangs 89 = .ok (.iadd, 1) := by decide +kernel
theorem dX12_hangs_90 : decode cX12_hangs 90 = .ok (.iaload, 1) := by decide +kernel
theorem dX12_hangs_91 : decode cX12_hangs 91 = .ok (.aload_n 0, 1) := by decide +kernel
theorem dX12_hangs_92 : decode cX12_hangs 92 = .ok (.getfield 95, 3) := by decide +kernel
theorem dX12_hangs_95 : decode cX12_hangs 95 = .ok (.iload_n 2, 1) := by decide +kernel
theorem dX12_hangs_96 : decode cX12_hangs 96 = .ok (.iaload, 1) := by decide +kernel
theorem dX12_hangs_97 : decode cX12_hangs 97 = .ok (.ishr, 1) := by decide +kernel
theorem dX12_hangs_98 : decode cX12_hangs 98 = .ok (.iconst 1, 1) := by decide +kernel
theorem dX12_hangs_99 : decode cX12_hangs 99 = .ok (.iand, 1) := by decide +kernel
theorem dX12_hangs_100 : decode cX12_hangs 100 = .ok (.iconst 1, 1) := by decide +kernel
theorem dX12_hangs_101 : decode cX12_hangs 101 = .ok (.if_icmp .ne 7, 3) := by decide +kernel
theorem dX12_hangs_104 : decode cX12_hangs 104 = .ok (.iconst 1, 1) := by decide +kernel
theorem dX12_hangs_105 : decode cX12_hangs 105 = .ok (.goto 4, 3) := by decide +kernel
theorem dX12_hangs_108 : decode cX12_hangs 108 = .ok (.iconst 0, 1) := by decide +kernel
theorem dX12_hangs_109 : decode cX12_hangs 109 = .ok (.ireturn, 1) := by decide +kernel
theorem dX12_layRing_0 : decode cX12_layRing 0 = .ok (.iconst 0, 1) := by decide +kernel
theorem dX12_layRing_1 : decode cX12_layRing 1 = .ok (.istore_n 3, 1) := by decide +kernel
theorem dX12_layRing_2 : decode cX12_layRing 2 = .ok (.iload_n 3, 1) := by decide +kernel
theorem dX12_layRing_3 : decode cX12_layRing 3 = .ok (.bipush 40, 2) := by decide +kernel
theorem dX12_layRing_5 : decode cX12_layRing 5 = .ok (.if_icmp .ge 25, 3) := by decide +kernel
theorem dX12_layRing_8 : decode cX12_layRing 8 = .ok (.aload_n 0, 1) := by decide +kernel
theorem dX12_layRing_9 : decode cX12_layRing 9 = .ok (.getfield 113, 3) := by decide +kernel
theorem dX12_layRing_12 : decode cX12_layRing 12 = .ok (.iload_n 3, 1) := by decide +kernel
theorem dX12_layRing_13 : decode cX12_layRing 13 = .ok (.iload_n 3, 1) := by decide +kernel
theorem dX12_layRing_14 : decode cX12_layRing 14 = .ok (.iload_n 1, 1) := by decide +kernel
theorem dX12_layRing_15 : decode cX12_layRing 15 = .ok (.if_icmp .ne 7, 3) := by decide +kernel
theorem dX12_layRing_18 : decode cX12_layRing 18 = .ok (.iconst 1, 1) := by decide +kernel
theorem dX12_layRing_19 : decode cX12_layRing 19 = .ok (.goto 4, 3) := by decide +kernel
theorem dX12_layRing_22 : decode cX12_layRing 22 = .ok (.iconst 0, 1) := by decide +kernel
theorem dX12_layRing_23 : decode cX12_layRing 23 = .ok (.bastore, 1) := by decide +kernel
theorem dX12_layRing_24 : decode cX12_layRing 24 = .ok (.iinc 3 1, 3) := by decide +kernel
theorem dX12_layRing_27 : decode cX12_layRing 27 = .ok (.goto (-25), 3) := by decide +kernel
theorem dX12_layRing_30 : decode cX12_layRing 30 = .ok (.iconst 1, 1) := by decide +kernel
theorem dX12_layRing_31 : decode cX12_layRing 31 = .ok (.istore_n 3, 1) := by decide +kernel
theorem dX12_layRing_32 : decode cX12_layRing 32 = .ok (.iconst 1, 1) := by decide +kernel
theorem dX12_layRing_33 : decode cX12_layRing 33 = .ok (.istore 4, 2) := by decide +kernel
theorem dX12_layRing_35 : decode cX12_layRing 35 = .ok (.iload 4, 2) := by decide +kernel
theorem dX12_layRing_37 : decode cX12_layRing 37 = .ok (.ifCond .eq 103, 3) := by decide +kernel
theorem dX12_layRing_40 : decode cX12_layRing 40 = .ok (.iconst 0, 1) := by decide +kernel
theorem dX12_layRing_41 : decode cX12_layRing 41 = .ok (.istore 4, 2) := by decide +kernel
theorem dX12_layRing_43 : decode cX12_layRing 43 = .ok (.iconst 0, 1) := by decide +kernel
theorem dX12_layRing_44 : decode cX12_layRing 44 = .ok (.istore 5, 2) := by decide +kernel
theorem dX12_layRing_46 : decode cX12_layRing 46 = .ok (.iload 5, 2) := by decide +kernel
theorem dX12_layRing_48 : decode cX12_layRing 48 = .ok (.aload_n 0, 1) := by decide +kernel
theorem dX12_layRing_49 : decode cX12_layRing 49 = .ok (.getfield 275, 3) := by decide +kernel
theorem dX12_layRing_52 : decode cX12_layRing 52 = .ok (.if_icmp .ge 85, 3) := by decide +kernel
theorem dX12_layRing_55 : decode cX12_layRing 55 = .ok (.iconst 0, 1) := by decide +kernel
theorem dX12_layRing_56 : decode cX12_layRing 56 = .ok (.istore 6, 2) := by decide +kernel
theorem dX12_layRing_58 : decode cX12_layRing 58 = .ok (.iload 6, 2) := by decide +kernel
theorem dX12_layRing_60 : decode cX12_layRing 60 = .ok (.aload_n 0, 1) := by decide +kernel
theorem dX12_layRing_61 : decode cX12_layRing 61 = .ok (.getfield 275, 3) := by decide +kernel
theorem dX12_layRing_64 : decode cX12_layRing 64 = .ok (.if_icmp .ge 67, 3) := by decide +kernel
theorem dX12_layRing_67 : decode cX12_layRing 67 = .ok (.aload_n 0, 1) := by decide +kernel
theorem dX12_layRing_68 : decode cX12_layRing 68 = .ok (.getfield 113, 3) := by decide +kernel
theorem dX12_layRing_71 : decode cX12_layRing 71 = .ok (.iload 5, 2) := by decide +kernel
theorem dX12_layRing_73 : decode cX12_layRing 73 = .ok (.baload, 1) := by decide +kernel
theorem dX12_layRing_74 : decode cX12_layRing 74 = .ok (.ifCond .ne 57, 3) := by decide +kernel
theorem dX12_layRing_77 : decode cX12_layRing 77 = .ok (.aload_n 0, 1) := by decide +kernel
theorem dX12_layRing_78 : decode cX12_layRing 78 = .ok (.iload 5, 2) := by decide +kernel
theorem dX12_layRing_80 : decode cX12_layRing 80 = .ok (.iload_n 2, 1) := by decide +kernel
theorem dX12_layRing_81 : decode cX12_layRing 81 = .ok (.invokevirtual 487, 3) := by decide +kernel
theorem dX12_layRing_84 : decode cX12_layRing 84 = .ok (.ifCond .eq 47, 3) := by decide +kernel
theorem dX12_layRing_87 : decode cX12_layRing 87 = .ok (.aload_n 0, 1) := by decide +kernel
theorem dX12_layRing_88 : decode cX12_layRing 88 = .ok (.getfield 113, 3) := by decide +kernel
theorem dX12_layRing_91 : decode cX12_layRing 91 = .ok (.iload 6, 2) := by decide +kernel
theorem dX12_layRing_93 : decode cX12_layRing 93 = .ok (.baload, 1) := by decide +kernel
theorem dX12_layRing_94 : decode cX12_layRing 94 = .ok (.ifCond .eq 31, 3) := by decide +kernel
theorem dX12_layRing_97 : decode cX12_layRing 97 = .ok (.aload_n 0, 1) := by decide +kernel
theorem dX12_layRing_98 : decode cX12_layRing 98 = .ok (.iload 5, 2) := by decide +kernel
theorem dX12_layRing_100 : decode cX12_layRing 100 = .ok (.iload 6, 2) := by decide +kernel
theorem dX12_layRing_102 : decode cX12_layRing 102 = .ok (.invokevirtual 496, 3) := by decide +kernel
theorem dX12_layRing_105 : decode cX12_layRing 105 = .ok (.ifCond .ne 6, 3) := by decide +kernel
theorem dX12_layRing_108 : decode cX12_layRing 108 = .ok (.goto 17, 3) := by decide +kernel
theorem dX12_layRing_111 : decode cX12_layRing 111 = .ok (.aload_n 0, 1) := by decide +kernel
theorem dX12_layRing_112 : decode cX12_layRing 112 = .ok (.getfield 113, 3) := by decide +kernel
theorem dX12_layRing_115 : decode cX12_layRing 115 = .ok (.iload 5, 2) := by decide +kernel
theorem dX12_layRing_117 : decode cX12_layRing 117 = .ok (.iconst 1, 1) := by decide +kernel
theorem dX12_layRing_118 : decode cX12_layRing 118 = .ok (.bastore, 1) := by decide +kernel
theorem dX12_layRing_119 : decode cX12_layRing 119 = .ok (.iinc 3 1, 3) := by decide +kernel
theorem dX12_layRing_122 : decode cX12_layRing 122 = .ok (.iconst 1, 1) := by decide +kernel
theorem dX12_layRing_123 : decode cX12_layRing 123 = .ok (.istore 4, 2) := by decide +kernel
theorem dX12_layRing_125 : decode cX12_layRing 125 = .ok (.iinc 6 1, 3) := by decide +kernel
theorem dX12_layRing_128 : decode cX12_layRing 128 = .ok (.goto (-70), 3) := by decide +kernel
theorem dX12_layRing_131 : decode cX12_layRing 131 = .ok (.iinc 5 1, 3) := by decide +kernel
theorem dX12_layRing_134 : decode cX12_layRing 134 = .ok (.goto (-88), 3) := by decide +kernel
theorem dX12_layRing_137 : decode cX12_layRing 137 = .ok (.goto (-102), 3) := by decide +kernel
theorem dX12_layRing_140 : decode cX12_layRing 140 = .ok (.iload_n 3, 1) := by decide +kernel
theorem dX12_layRing_141 : decode cX12_layRing 141 = .ok (.ireturn, 1) := by decide +kernel
theorem dX12_isFirst_0 : decode cX12_isFirst 0 = .ok (.aload_n 0, 1) := by decide +kernel
theorem dX12_isFirst_1 : decode cX12_isFirst 1 = .ok (.iload_n 1, 1) := by decide +kernel
theorem dX12_isFirst_2 : decode cX12_isFirst 2 = .ok (.iload_n 2, 1) := by decide +kernel
theorem dX12_isFirst_3 : decode cX12_isFirst 3 = .ok (.invokevirtual 499, 3) := by decide +kernel
theorem dX12_isFirst_6 : decode cX12_isFirst 6 = .ok (.pop, 1) := by decide +kernel
theorem dX12_isFirst_7 : decode cX12_isFirst 7 = .ok (.iconst 0, 1) := by decide +kernel
theorem dX12_isFirst_8 : decode cX12_isFirst 8 = .ok (.istore_n 3, 1) := by decide +kernel
theorem dX12_isFirst_9 : decode cX12_isFirst 9 = .ok (.iload_n 3, 1) := by decide +kernel
theorem dX12_isFirst_10 : decode cX12_isFirst 10 = .ok (.iload_n 1, 1) := by decide +kernel
theorem dX12_isFirst_11 : decode cX12_isFirst 11 = .ok (.if_icmp .ge 20, 3) := by decide +kernel
theorem dX12_isFirst_14 : decode cX12_isFirst 14 = .ok (.aload_n 0, 1) := by decide +kernel
theorem dX12_isFirst_15 : decode cX12_isFirst 15 = .ok (.getfield 113, 3) := by decide +kernel
theorem dX12_isFirst_18 : decode cX12_isFirst 18 = .ok (.iload_n 3, 1) := by decide +kernel
theorem dX12_isFirst_19 : decode cX12_isFirst 19 = .ok (.baload, 1) := by decide +kernel
theorem dX12_isFirst_20 : decode cX12_isFirst 20 = .ok (.ifCond .eq 5, 3) := by decide +kernel
theorem dX12_isFirst_23 : decode cX12_isFirst 23 = .ok (.iconst 0, 1) := by decide +kernel
theorem dX12_isFirst_24 : decode cX12_isFirst 24 = .ok (.ireturn, 1) := by decide +kernel
theorem dX12_isFirst_25 : decode cX12_isFirst 25 = .ok (.iinc 3 1, 3) := by decide +kernel
theorem dX12_isFirst_28 : decode cX12_isFirst 28 = .ok (.goto (-19), 3) := by decide +kernel
theorem dX12_isFirst_31 : decode cX12_isFirst 31 = .ok (.iconst 1, 1) := by decide +kernel
theorem dX12_isFirst_32 : decode cX12_isFirst 32 = .ok (.ireturn, 1) := by decide +kernel
theorem dX12_rings_0 : decode cX12_rings 0 = .ok (.iload_n 1, 1) := by decide +kernel
theorem dX12_rings_1 : decode cX12_rings 1 = .ok (.iconst 0, 1) := by decide +kernel
theorem dX12_rings_2 : decode cX12_rings 2 = .ok (.iconst 2, 1) := by decide +kernel
theorem dX12_rings_3 : decode cX12_rings 3 = .ok (.invokestatic 402, 3) := by decide +kernel
theorem dX12_rings_6 : decode cX12_rings 6 = .ok (.ifCond .ne 5, 3) := by decide +kernel
theorem dX12_rings_9 : decode cX12_rings 9 = .ok (.iconst (-1), 1) := by decide +kernel
theorem dX12_rings_10 : decode cX12_rings 10 = .ok (.ireturn, 1) := by decide +kernel
theorem dX12_rings_11 : decode cX12_rings 11 = .ok (.iconst 0, 1) := by decide +kernel
theorem dX12_rings_12 : decode cX12_rings 12 = .ok (.istore_n 3, 1) := by decide +kernel
theorem dX12_rings_13 : decode cX12_rings 13 = .ok (.iconst 0, 1) := by decide +kernel
theorem dX12_rings_14 : decode cX12_rings 14 = .ok (.istore 4, 2) := by decide +kernel
theorem dX12_rings_16 : decode cX12_rings 16 = .ok (.iconst (-1), 1) := by decide +kernel
theorem dX12_rings_17 : decode cX12_rings 17 = .ok (.istore 5, 2) := by decide +kernel
theorem dX12_rings_19 : decode cX12_rings 19 = .ok (.iconst 0, 1) := by decide +kernel
theorem dX12_rings_20 : decode cX12_rings 20 = .ok (.istore 6, 2) := by decide +kernel
theorem dX12_rings_22 : decode cX12_rings 22 = .ok (.iload 6, 2) := by decide +kernel
theorem dX12_rings_24 : decode cX12_rings 24 = .ok (.aload_n 0, 1) := by decide +kernel
theorem dX12_rings_25 : decode cX12_rings 25 = .ok (.getfield 275, 3) := by decide +kernel
theorem dX12_rings_28 : decode cX12_rings 28 = .ok (.if_icmp .ge 62, 3) := by decide +kernel
theorem dX12_rings_31 : decode cX12_rings 31 = .ok (.aload_n 0, 1) := by decide +kernel
theorem dX12_rings_32 : decode cX12_rings 32 = .ok (.iload 6, 2) := by decide +kernel
theorem dX12_rings_34 : decode cX12_rings 34 = .ok (.iload_n 2, 1) := by decide +kernel
theorem dX12_rings_35 : decode cX12_rings 35 = .ok (.invokevirtual 487, 3) := by decide +kernel
theorem dX12_rings_38 : decode cX12_rings 38 = .ok (.ifCond .eq 46, 3) := by decide +kernel
theorem dX12_rings_41 : decode cX12_rings 41 = .ok (.aload_n 0, 1) := by decide +kernel
theorem dX12_rings_42 : decode cX12_rings 42 = .ok (.iload 6, 2) := by decide +kernel
theorem dX12_rings_44 : decode cX12_rings 44 = .ok (.iload_n 2, 1) := by decide +kernel
theorem dX12_rings_45 : decode cX12_rings 45 = .ok (.invokevirtual 502, 3) := by decide +kernel
theorem dX12_rings_48 : decode cX12_rings 48 = .ok (.ifCond .ne 6, 3) := by decide +kernel
theorem dX12_rings_51 : decode cX12_rings 51 = .ok (.goto 33, 3) := by decide +kernel
theorem dX12_rings_54 : decode cX12_rings 54 = .ok (.iinc 3 1, 3) := by decide +kernel
theorem dX12_rings_57 : decode cX12_rings 57 = .ok (.aload_n 0, 1) := by decide +kernel
theorem dX12_rings_58 : decode cX12_rings 58 = .ok (.iload 6, 2) := by decide +kernel
theorem dX12_rings_60 : decode cX12_rings 60 = .ok (.iload_n 2, 1) := by decide +kernel
theorem dX12_rings_61 : decode cX12_rings 61 = .ok (.invokevirtual 499, 3) := by decide +kernel
theorem dX12_rings_64 : decode cX12_rings 64 = .ok (.istore 7, 2) := by decide +kernel
theorem dX12_rings_66 : decode cX12_rings 66 = .ok (.iload 7, 2) := by decide +kernel
theorem dX12_rings_68 : decode cX12_rings 68 = .ok (.iload 4, 2) := by decide +kernel
theorem dX12_rings_70 : decode cX12_rings 70 = .ok (.if_icmp .gt 6, 3) := by decide +kernel
theorem dX12_rings_73 : decode cX12_rings 73 = .ok (.goto 11, 3) := by decide +kernel
theorem dX12_rings_76 : decode cX12_rings 76 = .ok (.iload 7, 2) := by decide +kernel
theorem dX12_rings_78 : decode cX12_rings 78 = .ok (.istore 4, 2) := by decide +kernel
theorem dX12_rings_80 : decode cX12_rings 80 = .ok (.iload 6, 2) := by decide +kernel
theorem dX12_rings_82 : decode cX12_rings 82 = .ok (.istore 5, 2) := by decide +kernel
theorem dX12_rings_84 : decode cX12_rings 84 = .ok (.iinc 6 1, 3) := by decide +kernel
theorem dX12_rings_87 : decode cX12_rings 87 = .ok (.goto (-65), 3) := by decide +kernel
theorem dX12_rings_90 : decode cX12_rings 90 = .ok (.iload_n 1, 1) := by decide +kernel
theorem dX12_rings_91 : decode cX12_rings 91 = .ok (.ifCond .ne 7, 3) := by decide +kernel
theorem dX12_rings_94 : decode cX12_rings 94 = .ok (.iload_n 3, 1) := by decide +kernel
theorem dX12_rings_95 : decode cX12_rings 95 = .ok (.goto 15, 3) := by decide +kernel
theorem dX12_rings_98 : decode cX12_rings 98 = .ok (.iload_n 1, 1) := by decide +kernel
theorem dX12_rings_99 : decode cX12_rings 99 = .ok (.iconst 1, 1) := by decide +kernel
theorem dX12_rings_100 : decode cX12_rings 100 = .ok (.if_icmp .ne 8, 3) := by decide +kernel
theorem dX12_rings_103 : decode cX12_rings 103 = .ok (.iload 4, 2) := by decide +kernel
theorem dX12_rings_105 : decode cX12_rings 105 = .ok (.goto 5, 3) := by decide +kernel
theorem dX12_rings_108 : decode cX12_rings 108 = .ok (.iload 5, 2) := by decide +kernel
theorem dX12_rings_110 : decode cX12_rings 110 = .ok (.ireturn, 1) := by decide +kernel
theorem dX12_ring_0 : decode cX12_ring 0 = .ok (.aload_n 0, 1) := by decide +kernel
theorem dX12_ring_1 : decode cX12_ring 1 = .ok (.iload_n 1, 1) := by decide +kernel
theorem dX12_ring_2 : decode cX12_ring 2 = .ok (.iload_n 2, 1) := by decide +kernel
theorem dX12_ring_3 : decode cX12_ring 3 = .ok (.invokevirtual 487, 3) := by decide +kernel
theorem dX12_ring_6 : decode cX12_ring 6 = .ok (.ifCond .eq 12, 3) := by decide +kernel
theorem dX12_ring_9 : decode cX12_ring 9 = .ok (.aload_n 0, 1) := by decide +kernel
theorem dX12_ring_10 : decode cX12_ring 10 = .ok (.iload_n 1, 1) := by decide +kernel
theorem dX12_ring_11 : decode cX12_ring 11 = .ok (.iload_n 2, 1) := by decide +kernel
theorem dX12_ring_12 : decode cX12_ring 12 = .ok (.invokevirtual 499, 3) := by decide +kernel
theorem dX12_ring_15 : decode cX12_ring 15 = .ok (.goto 4, 3) := by decide +kernel
theorem dX12_ring_18 : decode cX12_ring 18 = .ok (.iconst (-1), 1) := by decide +kernel
theorem dX12_ring_19 : decode cX12_ring 19 = .ok (.ireturn, 1) := by decide +kernel
theorem dX12_between_0 : decode cX12_between 0 = .ok (.aload_n 0, 1) := by decide +kernel
theorem dX12_between_1 : decode cX12_between 1 = .ok (.iload_n 1, 1) := by decide +kernel
theorem dX12_between_2 : decode cX12_between 2 = .ok (.invokevirtual 424, 3) := by decide +kernel
theorem dX12_between_5 : decode cX12_between 5 = .ok (.ifCond .eq 11, 3) := by decide +kernel
theorem dX12_between_8 : decode cX12_between 8 = .ok (.aload_n 0, 1) := by decide +kernel
theorem dX12_between_9 : decode cX12_between 9 = .ok (.iload_n 2, 1) := by decide +kernel
theorem dX12_between_10 : decode cX12_between 10 = .ok (.invokevirtual 424, 3) := by decide +kernel
theorem dX12_between_13 : decode cX12_between 13 = .ok (.ifCond .ne 5, 3) := by decide +kernel
theorem dX12_between_16 : decode cX12_between 16 = .ok (.iconst (-1), 1) := by decide +kernel
theorem dX12_between_17 : decode cX12_between 17 = .ok (.ireturn, 1) := by decide +kernel
theorem dX12_between_18 : decode cX12_between 18 = .ok (.iconst 1, 1) := by decide +kernel
theorem dX12_between_19 : decode cX12_between 19 = .ok (.iload_n 1, 1) := by decide +kernel
theorem dX12_between_20 : decode cX12_between 20 = .ok (.ishl, 1) := by decide +kernel
theorem dX12_between_21 : decode cX12_between 21 = .ok (.istore_n 3, 1) := by decide +kernel
theorem dX12_between_22 : decode cX12_between 22 = .ok (.iconst 0, 1) := by decide +kernel
theorem dX12_between_23 : decode cX12_between 23 = .ok (.istore 4, 2) := by decide +kernel
theorem dX12_between_25 : decode cX12_between 25 = .ok (.iload_n 3, 1) := by decide +kernel
theorem dX12_between_26 : decode cX12_between 26 = .ok (.iload_n 2, 1) := by decide +kernel
theorem dX12_between_27 : decode cX12_between 27 = .ok (.ishr, 1) := by decide +kernel
theorem dX12_between_28 : decode cX12_between 28 = .ok (.iconst 1, 1) := by decide +kernel
theorem dX12_between_29 : decode cX12_between 29 = .ok (.iand, 1) := by decide +kernel
theorem dX12_between_30 : decode cX12_between 30 = .ok (.ifCond .ne 75, 3) := by decide +kernel
theorem dX12_between_33 : decode cX12_between 33 = .ok (.iload_n 3, 1) := by decide +kernel
theorem dX12_between_34 : decode cX12_between 34 = .ok (.istore 5, 2) := by decide +kernel
theorem dX12_between_36 : decode cX12_between 36 = .ok (.iconst 0, 1) := by decide +kernel
theorem dX12_between_37 : decode cX12_between 37 = .ok (.istore 6, 2) := by decide +kernel
theorem dX12_between_39 : decode cX12_between 39 = .ok (.iload 6, 2) := by decide +kernel
theorem dX12_between_41 : decode cX12_between 41 = .ok (.aload_n 0, 1) := by decide +kernel
theorem dX12_between_42 : decode cX12_between 42 = .ok (.invokevirtual 399, 3) := by decide +kernel
theorem dX12_between_45 : decode cX12_between 45 = .ok (.if_icmp .ge 43, 3) := by decide +kernel
theorem dX12_between_48 : decode cX12_between 48 = .ok (.iload 5, 2) := by decide +kernel
theorem dX12_between_50 : decode cX12_between 50 = .ok (.iload_n 3, 1) := by decide +kernel
theorem dX12_between_51 : decode cX12_between 51 = .ok (.iload 6, 2) := by decide +kernel
theorem dX12_between_53 : decode cX12_between 53 = .ok (.ishr, 1) := by decide +kernel
theorem dX12_between_54 : decode cX12_between 54 = .ok (.iconst 1, 1) := by decide +kernel
theorem dX12_between_55 : decode cX12_between 55 = .ok (.iand, 1) := by decide +kernel
theorem dX12_between_56 : decode cX12_between 56 = .ok (.iconst 1, 1) := by decide +kernel
theorem dX12_between_57 : decode cX12_between 57 = .ok (.if_icmp .ne 21, 3) := by decide +kernel
theorem dX12_between_60 : decode cX12_between 60 = .ok (.aload_n 0, 1) := by decide +kernel
theorem dX12_between_61 : decode cX12_between 61 = .ok (.getfield 42, 3) := by decide +kernel
theorem dX12_between_64 : decode cX12_between 64 = .ok (.bipush 16, 2) := by decide +kernel
theorem dX12_between_66 : decode cX12_between 66 = .ok (.aload_n 0, 1) := by decide +kernel
theorem dX12_between_67 : decode cX12_between 67 = .ok (.getfield 269, 3) := by decide +kernel
theorem dX12_between_70 : decode cX12_between 70 = .ok (.imul, 1) := by decide +kernel
theorem dX12_between_71 : decode cX12_between 71 = .ok (.iload 6, 2) := by decide +kernel
theorem dX12_between_73 : decode cX12_between 73 = .ok (.iadd, 1) := by decide +kernel
theorem dX12_between_74 : decode cX12_between 74 = .ok (.iaload, 1) := by decide +kernel
theorem dX12_between_75 : decode cX12_between 75 = .ok (.goto 4, 3) := by decide +kernel
theorem dX12_between_78 : decode cX12_between 78 = .ok (.iconst 0, 1) := by decide +kernel
theorem dX12_between_79 : decode cX12_between 79 = .ok (.ior, 1) := by decide +kernel
theorem dX12_between_80 : decode cX12_between 80 = .ok (.istore 5, 2) := by decide +kernel
theorem dX12_between_82 : decode cX12_between 82 = .ok (.iinc 6 1, 3) := by decide +kernel
theorem dX12_between_85 : decode cX12_between 85 = .ok (.goto (-46), 3) := by decide +kernel
theorem dX12_between_88 : decode cX12_between 88 = .ok (.iload 5, 2) := by decide +kernel
theorem dX12_between_90 : decode cX12_between 90 = .ok (.iload_n 3, 1) := by decide +kernel
theorem dX12_between_91 : decode cX12_between 91 = .ok (.if_icmp .ne 5, 3) := by decide +kernel
theorem dX12_between_94 : decode cX12_between 94 = .ok (.iconst (-1), 1) := by decide +kernel
theorem dX12_between_95 : decode cX12_between 95 = .ok (.ireturn, 1) := by decide +kernel
theorem dX12_between_96 : decode cX12_between 96 = .ok (.iload 5, 2) := by decide +kernel
theorem dX12_between_98 : decode cX12_between 98 = .ok (.istore_n 3, 1) := by decide +kernel
theorem dX12_between_99 : decode cX12_between 99 = .ok (.iinc 4 1, 3) := by decide +kernel
theorem dX12_between_102 : decode cX12_between 102 = .ok (.goto (-77), 3) := by decide +kernel
theorem dX12_between_105 : decode cX12_between 105 = .ok (.iload 4, 2) := by decide +kernel
theorem dX12_between_107 : decode cX12_between 107 = .ok (.ireturn, 1) := by decide +kernel
theorem dX12_isShown_0 : decode cX12_isShown 0 = .ok (.aload_n 0, 1) := by decide +kernel
theorem dX12_isShown_1 : decode cX12_isShown 1 = .ok (.iload_n 1, 1) := by decide +kernel
theorem dX12_isShown_2 : decode cX12_isShown 2 = .ok (.iload_n 2, 1) := by decide +kernel
theorem dX12_isShown_3 : decode cX12_isShown 3 = .ok (.invokevirtual 487, 3) := by decide +kernel
theorem dX12_isShown_6 : decode cX12_isShown 6 = .ok (.ifCond .eq 33, 3) := by decide +kernel
theorem dX12_isShown_9 : decode cX12_isShown 9 = .ok (.aload_n 0, 1) := by decide +kernel
theorem dX12_isShown_10 : decode cX12_isShown 10 = .ok (.getfield 95, 3) := by decide +kernel
theorem dX12_isShown_13 : decode cX12_isShown 13 = .ok (.iload_n 1, 1) := by decide +kernel
theorem dX12_isShown_14 : decode cX12_isShown 14 = .ok (.iaload, 1) := by decide +kernel
theorem dX12_isShown_15 : decode cX12_isShown 15 = .ok (.aload_n 0, 1) := by decide +kernel
theorem dX12_isShown_16 : decode cX12_isShown 16 = .ok (.getfield 98, 3) := by decide +kernel
theorem dX12_isShown_19 : decode cX12_isShown 19 = .ok (.iload_n 1, 1) := by decide +kernel
theorem dX12_isShown_20 : decode cX12_isShown 20 = .ok (.iaload, 1) := by decide +kernel
theorem dX12_isShown_21 : decode cX12_isShown 21 = .ok (.if_icmp .eq 18, 3) := by decide +kernel
theorem dX12_isShown_24 : decode cX12_isShown 24 = .ok (.aload_n 0, 1) := by decide +kernel
theorem dX12_isShown_25 : decode cX12_isShown 25 = .ok (.getfield 101, 3) := by decide +kernel
theorem dX12_isShown_28 : decode cX12_isShown 28 = .ok (.iload_n 1, 1) := by decide +kernel
theorem dX12_isShown_29 : decode cX12_isShown 29 = .ok (.iaload, 1) := by decide +kernel
theorem dX12_isShown_30 : decode cX12_isShown 30 = .ok (.iconst 1, 1) := by decide +kernel
theorem dX12_isShown_31 : decode cX12_isShown 31 = .ok (.bipush 9, 2) := by decide +kernel
theorem dX12_isShown_33 : decode cX12_isShown 33 = .ok (.invokestatic 402, 3) := by decide +kernel
theorem dX12_isShown_36 : decode cX12_isShown 36 = .ok (.ifCond .ne 5, 3) := by decide +kernel
theorem dX12_isShown_39 : decode cX12_isShown 39 = .ok (.iconst 0, 1) := by decide +kernel
theorem dX12_isShown_40 : decode cX12_isShown 40 = .ok (.ireturn, 1) := by decide +kernel
theorem dX12_isShown_41 : decode cX12_isShown 41 = .ok (.aload_n 0, 1) := by decide +kernel
theorem dX12_isShown_42 : decode cX12_isShown 42 = .ok (.iload_n 1, 1) := by decide +kernel
theorem dX12_isShown_43 : decode cX12_isShown 43 = .ok (.invokevirtual 471, 3) := by decide +kernel
theorem dX12_isShown_46 : decode cX12_isShown 46 = .ok (.aload_n 0, 1) := by decide +kernel
theorem dX12_isShown_47 : decode cX12_isShown 47 = .ok (.invokevirtual 452, 3) := by decide +kernel
theorem dX12_isShown_50 : decode cX12_isShown 50 = .ok (.ifCond .eq 7, 3) := by decide +kernel
theorem dX12_isShown_53 : decode cX12_isShown 53 = .ok (.iconst 1, 1) := by decide +kernel
theorem dX12_isShown_54 : decode cX12_isShown 54 = .ok (.goto 4, 3) := by decide +kernel
theorem dX12_isShown_57 : decode cX12_isShown 57 = .ok (.iconst 0, 1) := by decide +kernel
theorem dX12_isShown_58 : decode cX12_isShown 58 = .ok (.ireturn, 1) := by decide +kernel
theorem dX12_looks_0 : decode cX12_looks 0 = .ok (.iload_n 1, 1) := by decide +kernel
theorem dX12_looks_1 : decode cX12_looks 1 = .ok (.iconst 0, 1) := by decide +kernel
theorem dX12_looks_2 : decode cX12_looks 2 = .ok (.sipush 999, 3) := by decide +kernel
theorem dX12_looks_5 : decode cX12_looks 5 = .ok (.invokestatic 402, 3) := by decide +kernel
theorem dX12_looks_8 : decode cX12_looks 8 = .ok (.ifCond .eq 12, 3) := by decide +kernel
theorem dX12_looks_11 : decode cX12_looks 11 = .ok (.iload_n 2, 1) := by decide +kernel
theorem dX12_looks_12 : decode cX12_looks 12 = .ok (.iconst 0, 1) := by decide +kernel
theorem dX12_looks_13 : decode cX12_looks 13 = .ok (.iconst 1, 1) := by decide +kernel
theorem dX12_looks_14 : decode cX12_looks 14 = .ok (.invokestatic 402, 3) := by decide +kernel
theorem dX12_looks_17 : decode cX12_looks 17 = .ok (.ifCond .ne 5, 3) := by decide +kernel
theorem dX12_looks_20 : decode cX12_looks 20 = .ok (.iconst (-1), 1) := by decide +kernel
theorem dX12_looks_21 : decode cX12_looks 21 = .ok (.ireturn, 1) := by decide +kernel
theorem dX12_looks_22 : decode cX12_looks 22 = .ok (.iconst 0, 1) := by decide +kernel
theorem dX12_looks_23 : decode cX12_looks 23 = .ok (.istore 4, 2) := by decide +kernel
theorem dX12_looks_25 : decode cX12_looks 25 = .ok (.iconst (-1), 1) := by decide +kernel
theorem dX12_looks_26 : decode cX12_looks 26 = .ok (.istore 5, 2) := by decide +kernel
theorem dX12_looks_28 : decode cX12_looks 28 = .ok (.iconst 0, 1) := by decide +kernel
theorem dX12_looks_29 : decode cX12_looks 29 = .ok (.istore 6, 2) := by decide +kernel
theorem dX12_looks_31 : decode cX12_looks 31 = .ok (.iload 6, 2) := by decide +kernel
theorem dX12_looks_33 : decode cX12_looks 33 = .ok (.bipush 16, 2) := by decide +kernel
theorem dX12_looks_35 : decode cX12_looks 35 = .ok (.if_icmp .ge 147, 3) := by decide +kernel
theorem dX12_looks_38 : decode cX12_looks 38 = .ok (.iconst 0, 1) := by decide +kernel
theorem dX12_looks_39 : decode cX12_looks 39 = .ok (.istore 7, 2) := by decide +kernel
theorem dX12_looks_41 : decode cX12_looks 41 = .ok (.iconst 0, 1) := by decide +kernel
theorem dX12_looks_42 : decode cX12_looks 42 = .ok (.istore 8, 2) := by decide +kernel
theorem dX12_looks_44 : decode cX12_looks 44 = .ok (.iconst 0, 1) := by decide +kernel
theorem dX12_looks_45 : decode cX12_looks 45 = .ok (.istore 9, 2) := by decide +kernel
theorem dX12_looks_47 : decode cX12_looks 47 = .ok (.iload 9, 2) := by decide +kernel
theorem dX12_looks_49 : decode cX12_looks 49 = .ok (.iconst 4, 1) := by decide +kernel
theorem dX12_looks_50 : decode cX12_looks 50 = .ok (.if_icmp .ge 43, 3) := by decide +kernel
theorem dX12_looks_53 : decode cX12_looks 53 = .ok (.iload 7, 2) := by decide +kernel
theorem dX12_looks_55 : decode cX12_looks 55 = .ok (.iload 6, 2) := by decide +kernel
theorem dX12_looks_57 : decode cX12_looks 57 = .ok (.iload 9, 2) := by decide +kernel
theorem dX12_looks_59 : decode cX12_looks 59 = .ok (.ishr, 1) := by decide +kernel
theorem dX12_looks_60 : decode cX12_looks 60 = .ok (.iconst 1, 1) := by decide +kernel
theorem dX12_looks_61 : decode cX12_looks 61 = .ok (.iand, 1) := by decide +kernel
theorem dX12_looks_62 : decode cX12_looks 62 = .ok (.iconst 1, 1) := by decide +kernel
theorem dX12_looks_63 : decode cX12_looks 63 = .ok (.if_icmp .ne 20, 3) := by decide +kernel
theorem dX12_looks_66 : decode cX12_looks 66 = .ok (.aload_n 0, 1) := by decide +kernel
theorem dX12_looks_67 : decode cX12_looks 67 = .ok (.getfield 48, 3) := by decide +kernel
theorem dX12_looks_70 : decode cX12_looks 70 = .ok (.iconst 4, 1) := by decide +kernel
theorem dX12_looks_71 : decode cX12_looks 71 = .ok (.aload_n 0, 1) := by decide +kernel
theorem dX12_looks_72 : decode cX12_looks 72 = .ok (.getfield 269, 3) := by decide +kernel
theorem dX12_looks_75 : decode cX12_looks 75 = .ok (.imul, 1) := by decide +kernel
theorem dX12_looks_76 : decode cX12_looks 76 = .ok (.iload 9, 2) := by decide +kernel
theorem dX12_looks_78 : decode cX12_looks 78 = .ok (.iadd, 1) := by decide +kernel
theorem dX12_looks_79 : decode cX12_looks 79 = .ok (.iaload, 1) := by decide +kernel
theorem dX12_looks_80 : decode cX12_looks 80 = .ok (.goto 4, 3) := by decide +kernel
theorem dX12_looks_83 : decode cX12_looks 83 = .ok (.iconst 0, 1) := by decide +kernel
theorem dX12_looks_84 : decode cX12_looks 84 = .ok (.iadd, 1) := by decide +kernel
theorem dX12_looks_85 : decode cX12_looks 85 = .ok (.istore 7, 2) := by decide +kernel
theorem dX12_looks_87 : decode cX12_looks 87 = .ok (.iinc 9 1, 3) := by decide +kernel
theorem dX12_looks_90 : decode cX12_looks 90 = .ok (.goto (-43), 3) := by decide +kernel
theorem dX12_looks_93 : decode cX12_looks 93 = .ok (.iconst 0, 1) := by decide +kernel
theorem dX12_looks_94 : decode cX12_looks 94 = .ok (.istore 9, 2) := by decide +kernel
theorem dX12_looks_96 : decode cX12_looks 96 = .ok (.iload 9, 2) := by decide +kernel
theorem dX12_looks_98 : decode cX12_looks 98 = .ok (.aload_n 0, 1) := by decide +kernel
theorem dX12_looks_99 : decode cX12_looks 99 = .ok (.getfield 275, 3) := by decide +kernel
theorem dX12_looks_102 : decode cX12_looks 102 = .ok (.if_icmp .ge 50, 3) := by decide +kernel
theorem dX12_looks_105 : decode cX12_looks 105 = .ok (.iload 7, 2) := by decide +kernel
theorem dX12_looks_107 : decode cX12_looks 107 = .ok (.iload_n 1, 1) := by decide +kernel
theorem dX12_looks_108 : decode cX12_looks 108 = .ok (.if_icmp .gt 44, 3) := by decide +kernel
theorem dX12_looks_111 : decode cX12_looks 111 = .ok (.iload 8, 2) := by decide +kernel
theorem dX12_looks_113 : decode cX12_looks 113 = .ok (.iload 6, 2) := by decide +kernel
theorem dX12_looks_115 : decode cX12_looks 115 = .ok (.aload_n 0, 1) := by decide +kernel
theorem dX12_looks_116 : decode cX12_looks 116 = .ok (.iload 9, 2) := by decide +kernel
theorem dX12_looks_118 : decode cX12_looks 118 = .ok (.invokevirtual 462, 3) := by decide +kernel
theorem dX12_looks_121 : decode cX12_looks 121 = .ok (.ishr, 1) := by decide +kernel
theorem dX12_looks_122 : decode cX12_looks 122 = .ok (.iconst 1, 1) := by decide +kernel
theorem dX12_looks_123 : decode cX12_looks 123 = .ok (.iand, 1) := by decide +kernel
theorem dX12_looks_124 : decode cX12_looks 124 = .ok (.iconst 1, 1) := by decide +kernel
theorem dX12_looks_125 : decode cX12_looks 125 = .ok (.if_icmp .ne 17, 3) := by decide +kernel
theorem dX12_looks_128 : decode cX12_looks 128 = .ok (.aload_n 0, 1) := by decide +kernel
theorem dX12_looks_129 : decode cX12_looks 129 = .ok (.iload 9, 2) := by decide +kernel
theorem dX12_looks_131 : decode cX12_looks 131 = .ok (.iload_n 3, 1) := by decide +kernel
theorem dX12_looks_132 : decode cX12_looks 132 = .ok (.invokevirtual 505, 3) := by decide +kernel
theorem dX12_looks_135 : decode cX12_looks 135 = .ok (.ifCond .eq 7, 3) := by decide +kernel
theorem dX12_looks_138 : decode cX12_looks 138 = .ok (.iconst 1, 1) := by decide +kernel
theorem dX12_looks_139 : decode cX12_looks 139 = .ok (.goto 4, 3) := by decide +kernel
theorem dX12_looks_142 : decode cX12_looks 142 = .ok (.iconst 0, 1) := by decide +kernel
theorem dX12_looks_143 : decode cX12_looks 143 = .ok (.iadd, 1) := by decide +kernel
theorem dX12_looks_144 : decode cX12_looks 144 = .ok (.istore 8, 2) := by decide +kernel
theorem dX12_looks_146 : decode cX12_looks 146 = .ok (.iinc 9 1, 3) := by decide +kernel
theorem dX12_looks_149 : decode cX12_looks 149 = .ok (.goto (-53), 3) := by decide +kernel
theorem dX12_looks_152 : decode cX12_looks 152 = .ok (.iload 7, 2) := by decide +kernel
theorem dX12_looks_154 : decode cX12_looks 154 = .ok (.iload_n 1, 1) := by decide +kernel
theorem dX12_looks_155 : decode cX12_looks 155 = .ok (.if_icmp .gt 21, 3) := by decide +kernel
theorem dX12_looks_158 : decode cX12_looks 158 = .ok (.iload 8, 2) := by decide +kernel
theorem dX12_looks_160 : decode cX12_looks 160 = .ok (.iload 5, 2) := by decide +kernel
theorem dX12_looks_162 : decode cX12_looks 162 = .ok (.if_icmp .gt 6, 3) := by decide +kernel
theorem dX12_looks_165 : decode cX12_looks 165 = .ok (.goto 11, 3) := by decide +kernel
theorem dX12_looks_168 : decode cX12_looks 168 = .ok (.iload 6, 2) := by decide +kernel
theorem dX12_looks_170 : decode cX12_looks 170 = .ok (.istore 4, 2) := by decide +kernel
theorem dX12_looks_172 : decode cX12_looks 172 = .ok (.iload 8, 2) := by decide +kernel
theorem dX12_looks_174 : decode cX12_looks 174 = .ok (.istore 5, 2) := by decide +kernel
theorem dX12_looks_176 : decode cX12_looks 176 = .ok (.iinc 6 1, 3) := by decide +kernel
theorem dX12_looks_179 : decode cX12_looks 179 = .ok (.goto (-148), 3) := by decide +kernel
theorem dX12_looks_182 : decode cX12_looks 182 = .ok (.iload_n 2, 1) := by decide +kernel
theorem dX12_looks_183 : decode cX12_looks 183 = .ok (.ifCond .ne 8, 3) := by decide +kernel
theorem dX12_looks_186 : decode cX12_looks 186 = .ok (.iload 4, 2) := by decide +kernel
theorem dX12_looks_188 : decode cX12_looks 188 = .ok (.goto 5, 3) := by decide +kernel
theorem dX12_looks_191 : decode cX12_looks 191 = .ok (.iload 5, 2) := by decide +kernel
theorem dX12_looks_193 : decode cX12_looks 193 = .ok (.ireturn, 1) := by decide +kernel
theorem dX12_falseOf_0 : decode cX12_falseOf 0 = .ok (.iconst 0, 1) := by decide +kernel
theorem dX12_falseOf_1 : decode cX12_falseOf 1 = .ok (.istore 5, 2) := by decide +kernel
theorem dX12_falseOf_3 : decode cX12_falseOf 3 = .ok (.iconst 0, 1) := by decide +kernel
theorem dX12_falseOf_4 : decode cX12_falseOf 4 = .ok (.istore 6, 2) := by decide +kernel
theorem dX12_falseOf_6 : decode cX12_falseOf 6 = .ok (.iload 6, 2) := by decide +kernel
theorem dX12_falseOf_8 : decode cX12_falseOf 8 = .ok (.aload_n 0, 1) := by decide +kernel
theorem dX12_falseOf_9 : decode cX12_falseOf 9 = .ok (.invokevirtual 399, 3) := by decide +kernel
theorem dX12_falseOf_12 : decode cX12_falseOf 12 = .ok (.if_icmp .ge 51, 3) := by decide +kernel
theorem dX12_falseOf_15 : decode cX12_falseOf 15 = .ok (.iload 6, 2) := by decide +kernel
theorem dX12_falseOf_17 : decode cX12_falseOf 17 = .ok (.iload_n 1, 1) := by decide +kernel
theorem dX12_falseOf_18 : decode cX12_falseOf 18 = .ok (.if_icmp .ne 6, 3) := by decide +kernel
theorem dX12_falseOf_21 : decode cX12_falseOf 21 = .ok (.goto 36, 3) := by decide +kernel
theorem dX12_falseOf_24 : decode cX12_falseOf 24 = .ok (.aload_n 0, 1) := by decide +kernel
theorem dX12_falseOf_25 : decode cX12_falseOf 25 = .ok (.iload 6, 2) := by decide +kernel
theorem dX12_falseOf_27 : decode cX12_falseOf 27 = .ok (.iload 6, 2) := by decide +kernel
theorem dX12_falseOf_29 : decode cX12_falseOf 29 = .ok (.bipush 10, 2) := by decide +kernel
theorem dX12_falseOf_31 : decode cX12_falseOf 31 = .ok (.iconst (-1), 1) := by decide +kernel
theorem dX12_falseOf_32 : decode cX12_falseOf 32 = .ok (.invokevirtual 427, 3) := by decide +kernel
theorem dX12_falseOf_35 : decode cX12_falseOf 35 = .ok (.iload 5, 2) := by decide +kernel
theorem dX12_falseOf_37 : decode cX12_falseOf 37 = .ok (.aload_n 0, 1) := by decide +kernel
theorem dX12_falseOf_38 : decode cX12_falseOf 38 = .ok (.iload_n 1, 1) := by decide +kernel
theorem dX12_falseOf_39 : decode cX12_falseOf 39 = .ok (.iload_n 3, 1) := by decide +kernel
theorem dX12_falseOf_40 : decode cX12_falseOf 40 = .ok (.iload 4, 2) := by decide +kernel
theorem dX12_falseOf_42 : decode cX12_falseOf 42 = .ok (.invokevirtual 418, 3) := by decide +kernel
theorem dX12_falseOf_45 : decode cX12_falseOf 45 = .ok (.iload_n 2, 1) := by decide +kernel
theorem dX12_falseOf_46 : decode cX12_falseOf 46 = .ok (.if_icmp .gt 7, 3) := by decide +kernel
theorem dX12_falseOf_49 : decode cX12_falseOf 49 = .ok (.iconst 1, 1) := by decide +kernel
theorem dX12_falseOf_50 : decode cX12_falseOf 50 = .ok (.goto 4, 3) := by decide +kernel
theorem dX12_falseOf_53 : decode cX12_falseOf 53 = .ok (.iconst 0, 1) := by decide +kernel
theorem dX12_falseOf_54 : decode cX12_falseOf 54 = .ok (.iadd, 1) := by decide +kernel
theorem dX12_falseOf_55 : decode cX12_falseOf 55 = .ok (.istore 5, 2) := by decide +kernel
theorem dX12_falseOf_57 : decode cX12_falseOf 57 = .ok (.iinc 6 1, 3) := by decide +kernel
theorem dX12_falseOf_60 : decode cX12_falseOf 60 = .ok (.goto (-54), 3) := by decide +kernel
theorem dX12_falseOf_63 : decode cX12_falseOf 63 = .ok (.iload 5, 2) := by decide +kernel
theorem dX12_falseOf_65 : decode cX12_falseOf 65 = .ok (.ireturn, 1) := by decide +kernel
theorem dX12_isHeld_0 : decode cX12_isHeld 0 = .ok (.aload_n 0, 1) := by decide +kernel
theorem dX12_isHeld_1 : decode cX12_isHeld 1 = .ok (.iload_n 1, 1) := by decide +kernel
theorem dX12_isHeld_2 : decode cX12_isHeld 2 = .ok (.iload_n 1, 1) := by decide +kernel
theorem dX12_isHeld_3 : decode cX12_isHeld 3 = .ok (.bipush 10, 2) := by decide +kernel
theorem dX12_isHeld_5 : decode cX12_isHeld 5 = .ok (.iconst (-1), 1) := by decide +kernel
theorem dX12_isHeld_6 : decode cX12_isHeld 6 = .ok (.invokevirtual 427, 3) := by decide +kernel
theorem dX12_isHeld_9 : decode cX12_isHeld 9 = .ok (.aload_n 0, 1) := by decide +kernel
theorem dX12_isHeld_10 : decode cX12_isHeld 10 = .ok (.iload_n 1, 1) := by decide +kernel
theorem dX12_isHeld_11 : decode cX12_isHeld 11 = .ok (.iload_n 3, 1) := by decide +kernel
theorem dX12_isHeld_12 : decode cX12_isHeld 12 = .ok (.iload 4, 2) := by decide +kernel
theorem dX12_isHeld_14 : decode cX12_isHeld 14 = .ok (.invokevirtual 418, 3) := by decide +kernel
theorem dX12_isHeld_17 : decode cX12_isHeld 17 = .ok (.iload_n 2, 1) := by decide +kernel
theorem dX12_isHeld_18 : decode cX12_isHeld 18 = .ok (.if_icmp .le 7, 3) := by decide +kernel
theorem dX12_isHeld_21 : decode cX12_isHeld 21 = .ok (.iconst 1, 1) := by decide +kernel
theorem dX12_isHeld_22 : decode cX12_isHeld 22 = .ok (.goto 4, 3) := by decide +kernel
theorem dX12_isHeld_25 : decode cX12_isHeld 25 = .ok (.iconst 0, 1) := by decide +kernel
theorem dX12_isHeld_26 : decode cX12_isHeld 26 = .ok (.ireturn, 1) := by decide +kernel
theorem dX12_costOf_0 : decode cX12_costOf 0 = .ok (.iconst 0, 1) := by decide +kernel
theorem dX12_costOf_1 : decode cX12_costOf 1 = .ok (.istore 6, 2) := by decide +kernel
theorem dX12_costOf_3 : decode cX12_costOf 3 = .ok (.iconst 0, 1) := by decide +kernel
theorem dX12_costOf_4 : decode cX12_costOf 4 = .ok (.istore 7, 2) := by decide +kernel
theorem dX12_costOf_6 : decode cX12_costOf 6 = .ok (.iload 7, 2) := by decide +kernel
theorem dX12_costOf_8 : decode cX12_costOf 8 = .ok (.aload_n 0, 1) := by decide +kernel
theorem dX12_costOf_9 : decode cX12_costOf 9 = .ok (.invokevirtual 399, 3) := by decide +kernel
theorem dX12_costOf_12 : decode cX12_costOf 12 = .ok (.if_icmp .ge 47, 3) := by decide +kernel
theorem dX12_costOf_15 : decode cX12_costOf 15 = .ok (.iload 6, 2) := by decide +kernel
theorem dX12_costOf_17 : decode cX12_costOf 17 = .ok (.iload_n 2, 1) := by decide +kernel
theorem dX12_costOf_18 : decode cX12_costOf 18 = .ok (.aload_n 0, 1) := by decide +kernel
theorem dX12_costOf_19 : decode cX12_costOf 19 = .ok (.iload 7, 2) := by decide +kernel
theorem dX12_costOf_21 : decode cX12_costOf 21 = .ok (.iload_n 1, 1) := by decide +kernel
theorem dX12_costOf_22 : decode cX12_costOf 22 = .ok (.iload 4, 2) := by decide +kernel
theorem dX12_costOf_24 : decode cX12_costOf 24 = .ok (.iload 5, 2) := by decide +kernel
theorem dX12_costOf_26 : decode cX12_costOf 26 = .ok (.invokevirtual 508, 3) := by decide +kernel
theorem dX12_costOf_29 : decode cX12_costOf 29 = .ok (.imul, 1) := by decide +kernel
theorem dX12_costOf_30 : decode cX12_costOf 30 = .ok (.aload_n 0, 1) := by decide +kernel
theorem dX12_costOf_31 : decode cX12_costOf 31 = .ok (.iload 7, 2) := by decide +kernel
theorem dX12_costOf_33 : decode cX12_costOf 33 = .ok (.iload_n 1, 1) := by decide +kernel
theorem dX12_costOf_34 : decode cX12_costOf 34 = .ok (.iload 4, 2) := by decide +kernel
theorem dX12_costOf_36 : decode cX12_costOf 36 = .ok (.iload 5, 2) := by decide +kernel
theorem dX12_costOf_38 : decode cX12_costOf 38 = .ok (.invokevirtual 511, 3) := by decide +kernel
theorem dX12_costOf_41 : decode cX12_costOf 41 = .ok (.ifCond .eq 7, 3) := by decide +kernel
theorem dX12_costOf_44 : decode cX12_costOf 44 = .ok (.iload_n 3, 1) := by decide +kernel
theorem dX12_costOf_45 : decode cX12_costOf 45 = .ok (.goto 4, 3) := by decide +kernel
theorem dX12_costOf_48 : decode cX12_costOf 48 = .ok (.iconst 0, 1) := by decide +kernel
theorem dX12_costOf_49 : decode cX12_costOf 49 = .ok (.iadd, 1) := by decide +kernel
theorem dX12_costOf_50 : decode cX12_costOf 50 = .ok (.iadd, 1) := by decide +kernel
theorem dX12_costOf_51 : decode cX12_costOf 51 = .ok (.istore 6, 2) := by decide +kernel
theorem dX12_costOf_53 : decode cX12_costOf 53 = .ok (.iinc 7 1, 3) := by decide +kernel
theorem dX12_costOf_56 : decode cX12_costOf 56 = .ok (.goto (-50), 3) := by decide +kernel
theorem dX12_costOf_59 : decode cX12_costOf 59 = .ok (.iload 6, 2) := by decide +kernel
theorem dX12_costOf_61 : decode cX12_costOf 61 = .ok (.ireturn, 1) := by decide +kernel
theorem dX12_isCost_0 : decode cX12_isCost 0 = .ok (.iload_n 0, 1) := by decide +kernel
theorem dX12_isCost_1 : decode cX12_isCost 1 = .ok (.iconst 0, 1) := by decide +kernel
theorem dX12_isCost_2 : decode cX12_isCost 2 = .ok (.bipush 99, 2) := by decide +kernel
theorem dX12_isCost_4 : decode cX12_isCost 4 = .ok (.invokestatic 402, 3) := by decide +kernel
theorem dX12_isCost_7 : decode cX12_isCost 7 = .ok (.ifCond .eq 17, 3) := by decide +kernel
theorem dX12_isCost_10 : decode cX12_isCost 10 = .ok (.iload_n 1, 1) := by decide +kernel
theorem dX12_isCost_11 : decode cX12_isCost 11 = .ok (.iconst 0, 1) := by decide +kernel
theorem dX12_isCost_12 : decode cX12_isCost 12 = .ok (.bipush 99, 2) := by decide +kernel
theorem dX12_isCost_14 : decode cX12_isCost 14 = .ok (.invokestatic 402, 3) := by decide +kernel
theorem dX12_isCost_17 : decode cX12_isCost 17 = .ok (.ifCond .eq 7, 3) := by decide +kernel
theorem dX12_isCost_20 : decode cX12_isCost 20 = .ok (.iconst 1, 1) := by decide +kernel
theorem dX12_isCost_21 : decode cX12_isCost 21 = .ok (.goto 4, 3) := by decide +kernel
theorem dX12_isCost_24 : decode cX12_isCost 24 = .ok (.iconst 0, 1) := by decide +kernel
theorem dX12_isCost_25 : decode cX12_isCost 25 = .ok (.ireturn, 1) := by decide +kernel
theorem dX12_cost_0 : decode cX12_cost 0 = .ok (.iload_n 1, 1) := by decide +kernel
theorem dX12_cost_1 : decode cX12_cost 1 = .ok (.iconst 0, 1) := by decide +kernel
theorem dX12_cost_2 : decode cX12_cost 2 = .ok (.sipush 800, 3) := by decide +kernel
theorem dX12_cost_5 : decode cX12_cost 5 = .ok (.invokestatic 402, 3) := by decide +kernel
theorem dX12_cost_8 : decode cX12_cost 8 = .ok (.ifCond .eq 35, 3) := by decide +kernel
theorem dX12_cost_11 : decode cX12_cost 11 = .ok (.iload_n 2, 1) := by decide +kernel
theorem dX12_cost_12 : decode cX12_cost 12 = .ok (.iload_n 3, 1) := by decide +kernel
theorem dX12_cost_13 : decode cX12_cost 13 = .ok (.invokestatic 514, 3) := by decide +kernel
theorem dX12_cost_16 : decode cX12_cost 16 = .ok (.ifCond .eq 27, 3) := by decide +kernel
theorem dX12_cost_19 : decode cX12_cost 19 = .ok (.iload 4, 2) := by decide +kernel
theorem dX12_cost_21 : decode cX12_cost 21 = .ok (.iload 5, 2) := by decide +kernel
theorem dX12_cost_23 : decode cX12_cost 23 = .ok (.invokestatic 434, 3) := by decide +kernel
theorem dX12_cost_26 : decode cX12_cost 26 = .ok (.ifCond .eq 17, 3) := by decide +kernel
theorem dX12_cost_29 : decode cX12_cost 29 = .ok (.aload_n 0, 1) := by decide +kernel
theorem dX12_cost_30 : decode cX12_cost 30 = .ok (.iload_n 1, 1) := by decide +kernel
theorem dX12_cost_31 : decode cX12_cost 31 = .ok (.iload_n 2, 1) := by decide +kernel
theorem dX12_cost_32 : decode cX12_cost 32 = .ok (.iload_n 3, 1) := by decide +kernel
theorem dX12_cost_33 : decode cX12_cost 33 = .ok (.iload 4, 2) := by decide +kernel
theorem dX12_cost_35 : decode cX12_cost 35 = .ok (.iload 5, 2) := by decide +kernel
theorem dX12_cost_37 : decode cX12_cost 37 = .ok (.invokevirtual 517, 3) := by decide +kernel
theorem dX12_cost_40 : decode cX12_cost 40 = .ok (.goto 4, 3) := by decide +kernel
theorem dX12_cost_43 : decode cX12_cost 43 = .ok (.iconst (-1), 1) := by decide +kernel
theorem dX12_cost_44 : decode cX12_cost 44 = .ok (.ireturn, 1) := by decide +kernel
theorem dX12_bestBar_0 : decode cX12_bestBar 0 = .ok (.iload_n 1, 1) := by decide +kernel
theorem dX12_bestBar_1 : decode cX12_bestBar 1 = .ok (.iload_n 2, 1) := by decide +kernel
theorem dX12_bestBar_2 : decode cX12_bestBar 2 = .ok (.invokestatic 514, 3) := by decide +kernel
theorem dX12_bestBar_5 : decode cX12_bestBar 5 = .ok (.ifCond .eq 12, 3) := by decide +kernel
theorem dX12_bestBar_8 : decode cX12_bestBar 8 = .ok (.iload_n 3, 1) := by decide +kernel
theorem dX12_bestBar_9 : decode cX12_bestBar 9 = .ok (.iload 4, 2) := by decide +kernel
theorem dX12_bestBar_11 : decode cX12_bestBar 11 = .ok (.invokestatic 434, 3) := by decide +kernel
theorem dX12_bestBar_14 : decode cX12_bestBar 14 = .ok (.ifCond .ne 5, 3) := by decide +kernel
theorem dX12_bestBar_17 : decode cX12_bestBar 17 = .ok (.iconst (-1), 1) := by decide +kernel
theorem dX12_bestBar_18 : decode cX12_bestBar 18 = .ok (.ireturn, 1) := by decide +kernel
theorem dX12_bestBar_19 : decode cX12_bestBar 19 = .ok (.iconst 0, 1) := by decide +kernel
theorem dX12_bestBar_20 : decode cX12_bestBar 20 = .ok (.istore 5, 2) := by decide +kernel
theorem dX12_bestBar_22 : decode cX12_bestBar 22 = .ok (.aload_n 0, 1) := by decide +kernel
theorem dX12_bestBar_23 : decode cX12_bestBar 23 = .ok (.iconst 0, 1) := by decide +kernel
theorem dX12_bestBar_24 : decode cX12_bestBar 24 = .ok (.iload_n 1, 1) := by decide +kernel
theorem dX12_bestBar_25 : decode cX12_bestBar 25 = .ok (.iload_n 2, 1) := by decide +kernel
theorem dX12_bestBar_26 : decode cX12_bestBar 26 = .ok (.iload_n 3, 1) := by decide +kernel
theorem dX12_bestBar_27 : decode cX12_bestBar 27 = .ok (.iload 4, 2) := by decide +kernel
theorem dX12_bestBar_29 : decode cX12_bestBar 29 = .ok (.invokevirtual 517, 3) := by decide +kernel
theorem dX12_bestBar_32 : decode cX12_bestBar 32 = .ok (.istore 6, 2) := by decide +kernel
theorem dX12_bestBar_34 : decode cX12_bestBar 34 = .ok (.iconst 1, 1) := by decide +kernel
theorem dX12_bestBar_35 : decode cX12_bestBar 35 = .ok (.istore 7, 2) := by decide +kernel
theorem dX12_bestBar_37 : decode cX12_bestBar 37 = .ok (.iload 7, 2) := by decide +kernel
theorem dX12_bestBar_39 : decode cX12_bestBar 39 = .ok (.sipush 800, 3) := by decide +kernel
theorem dX12_bestBar_42 : decode cX12_bestBar 42 = .ok (.if_icmp .gt 40, 3) := by decide +kernel
theorem dX12_bestBar_45 : decode cX12_bestBar 45 = .ok (.aload_n 0, 1) := by decide +kernel
theorem dX12_bestBar_46 : decode cX12_bestBar 46 = .ok (.iload 7, 2) := by decide +kernel
theorem dX12_bestBar_48 : decode cX12_bestBar 48 = .ok (.iload_n 1, 1) := by decide +kernel
theorem dX12_bestBar_49 : decode cX12_bestBar 49 = .ok (.iload_n 2, 1) := by decide +kernel
theorem dX12_bestBar_50 : decode cX12_bestBar 50 = .ok (.iload_n 3, 1) := by decide +kernel
theorem dX12_bestBar_51 : decode cX12_bestBar 51 = .ok (.iload 4, 2) := by decide +kernel
theorem dX12_bestBar_53 : decode cX12_bestBar 53 = .ok (.invokevirtual 517, 3) := by decide +kernel
theorem dX12_bestBar_56 : decode cX12_bestBar 56 = .ok (.istore 8, 2) := by decide +kernel
theorem dX12_bestBar_58 : decode cX12_bestBar 58 = .ok (.iload 8, 2) := by decide +kernel
theorem dX12_bestBar_60 : decode cX12_bestBar 60 = .ok (.iload 6, 2) := by decide +kernel
theorem dX12_bestBar_62 : decode cX12_bestBar 62 = .ok (.if_icmp .lt 6, 3) := by decide +kernel
theorem dX12_bestBar_65 : decode cX12_bestBar 65 = .ok (.goto 11, 3) := by decide +kernel
theorem dX12_bestBar_68 : decode cX12_bestBar 68 = .ok (.iload 7, 2) := by decide +kernel
theorem dX12_bestBar_70 : decode cX12_bestBar 70 = .ok (.istore 5, 2) := by decide +kernel
theorem dX12_bestBar_72 : decode cX12_bestBar 72 = .ok (.iload 8, 2) := by decide +kernel
theorem dX12_bestBar_74 : decode cX12_bestBar 74 = .ok (.istore 6, 2) := by decide +kernel
theorem dX12_bestBar_76 : decode cX12_bestBar 76 = .ok (.iinc 7 1, 3) := by decide +kernel
theorem dX12_bestBar_79 : decode cX12_bestBar 79 = .ok (.goto (-42), 3) := by decide +kernel
theorem dX12_bestBar_82 : decode cX12_bestBar 82 = .ok (.iload 5, 2) := by decide +kernel
theorem dX12_bestBar_84 : decode cX12_bestBar 84 = .ok (.ireturn, 1) := by decide +kernel
theorem dX12_kindBar_0 : decode cX12_kindBar 0 = .ok (.iconst 0, 1) := by decide +kernel
theorem dX12_kindBar_1 : decode cX12_kindBar 1 = .ok (.istore 5, 2) := by decide +kernel
theorem dX12_kindBar_3 : decode cX12_kindBar 3 = .ok (.iload 5, 2) := by decide +kernel
theorem dX12_kindBar_5 : decode cX12_kindBar 5 = .ok (.sipush 800, 3) := by decide +kernel
theorem dX12_kindBar_8 : decode cX12_kindBar 8 = .ok (.if_icmp .gt 104, 3) := by decide +kernel
theorem dX12_kindBar_11 : decode cX12_kindBar 11 = .ok (.iconst 0, 1) := by decide +kernel
theorem dX12_kindBar_12 : decode cX12_kindBar 12 = .ok (.istore 6, 2) := by decide +kernel
theorem dX12_kindBar_14 : decode cX12_kindBar 14 = .ok (.iconst 0, 1) := by decide +kernel
theorem dX12_kindBar_15 : decode cX12_kindBar 15 = .ok (.istore 7, 2) := by decide +kernel
theorem dX12_kindBar_17 : decode cX12_kindBar 17 = .ok (.iconst 0, 1) := by decide +kernel
theorem dX12_kindBar_18 : decode cX12_kindBar 18 = .ok (.istore 8, 2) := by decide +kernel
theorem dX12_kindBar_20 : decode cX12_kindBar 20 = .ok (.iload 8, 2) := by decide +kernel
theorem dX12_kindBar_22 : decode cX12_kindBar 22 = .ok (.aload_n 0, 1) := by decide +kernel
theorem dX12_kindBar_23 : decode cX12_kindBar 23 = .ok (.invokevirtual 399, 3) := by decide +kernel
theorem dX12_kindBar_26 : decode cX12_kindBar 26 = .ok (.if_icmp .ge 58, 3) := by decide +kernel
theorem dX12_kindBar_29 : decode cX12_kindBar 29 = .ok (.aload_n 0, 1) := by decide +kernel
theorem dX12_kindBar_30 : decode cX12_kindBar 30 = .ok (.getfield 33, 3) := by decide +kernel
theorem dX12_kindBar_33 : decode cX12_kindBar 33 = .ok (.bipush 16, 2) := by decide +kernel
theorem dX12_kindBar_35 : decode cX12_kindBar 35 = .ok (.aload_n 0, 1) := by decide +kernel
theorem dX12_kindBar_36 : decode cX12_kindBar 36 = .ok (.getfield 269, 3) := by decide +kernel
theorem dX12_kindBar_39 : decode cX12_kindBar 39 = .ok (.imul, 1) := by decide +kernel
theorem dX12_kindBar_40 : decode cX12_kindBar 40 = .ok (.iload 8, 2) := by decide +kernel
theorem dX12_kindBar_42 : decode cX12_kindBar 42 = .ok (.iadd, 1) := by decide +kernel
theorem dX12_kindBar_43 : decode cX12_kindBar 43 = .ok (.iaload, 1) := by decide +kernel
theorem dX12_kindBar_44 : decode cX12_kindBar 44 = .ok (.iload_n 1, 1) := by decide +kernel
theorem dX12_kindBar_45 : decode cX12_kindBar 45 = .ok (.if_icmp .eq 6, 3) := by decide +kernel
theorem dX12_kindBar_48 : decode cX12_kindBar 48 = .ok (.goto 30, 3) := by decide +kernel
theorem dX12_kindBar_51 : decode cX12_kindBar 51 = .ok (.iinc 6 1, 3) := by decide +kernel
theorem dX12_kindBar_54 : decode cX12_kindBar 54 = .ok (.iload 7, 2) := by decide +kernel
theorem dX12_kindBar_56 : decode cX12_kindBar 56 = .ok (.aload_n 0, 1) := by decide +kernel
theorem dX12_kindBar_57 : decode cX12_kindBar 57 = .ok (.iload 8, 2) := by decide +kernel
theorem dX12_kindBar_59 : decode cX12_kindBar 59 = .ok (.iload 5, 2) := by decide +kernel
theorem dX12_kindBar_61 : decode cX12_kindBar 61 = .ok (.iload_n 3, 1) := by decide +kernel
theorem dX12_kindBar_62 : decode cX12_kindBar 62 = .ok (.iload 4, 2) := by decide +kernel
theorem dX12_kindBar_64 : decode cX12_kindBar 64 = .ok (.invokevirtual 511, 3) := by decide +kernel
theorem dX12_kindBar_67 : decode cX12_kindBar 67 = .ok (.ifCond .eq 7, 3) := by decide +kernel
theorem dX12_kindBar_70 : decode cX12_kindBar 70 = .ok (.iconst 1, 1) := by decide +kernel
theorem dX12_kindBar_71 : decode cX12_kindBar 71 = .ok (.goto 4, 3) := by decide +kernel
theorem dX12_kindBar_74 : decode cX12_kindBar 74 = .ok (.iconst 0, 1) := by decide +kernel
theorem dX12_kindBar_75 : decode cX12_kindBar 75 = .ok (.iadd, 1) := by decide +kernel
theorem dX12_kindBar_76 : decode cX12_kindBar 76 = .ok (.istore 7, 2) := by decide +kernel
theorem dX12_kindBar_78 : decode cX12_kindBar 78 = .ok (.iinc 8 1, 3) := by decide +kernel
theorem dX12_kindBar_81 : decode cX12_kindBar 81 = .ok (.goto (-61), 3) := by decide +kernel
theorem dX12_kindBar_84 : decode cX12_kindBar 84 = .ok (.iload 6, 2) := by decide +kernel
theorem dX12_kindBar_86 : decode cX12_kindBar 86 = .ok (.ifCond .ne 5, 3) := by decide +kernel
theorem dX12_kindBar_89 : decode cX12_kindBar 89 = .ok (.iconst (-1), 1) := by decide +kernel
theorem dX12_kindBar_90 : decode cX12_kindBar 90 = .ok (.ireturn, 1) := by decide +kernel
theorem dX12_kindBar_91 : decode cX12_kindBar 91 = .ok (.iload 7, 2) := by decide +kernel
theorem dX12_kindBar_93 : decode cX12_kindBar 93 = .ok (.bipush 100, 2) := by decide +kernel
theorem dX12_kindBar_95 : decode cX12_kindBar 95 = .ok (.imul, 1) := by decide +kernel
theorem dX12_kindBar_96 : decode cX12_kindBar 96 = .ok (.iload_n 2, 1) := by decide +kernel
theorem dX12_kindBar_97 : decode cX12_kindBar 97 = .ok (.iload 6, 2) := by decide +kernel
theorem dX12_kindBar_99 : decode cX12_kindBar 99 = .ok (.imul, 1) := by decide +kernel
theorem dX12_kindBar_100 : decode cX12_kindBar 100 = .ok (.if_icmp .gt 6, 3) := by decide +kernel
theorem dX12_kindBar_103 : decode cX12_kindBar 103 = .ok (.iload 5, 2) := by decide +kernel
theorem dX12_kindBar_105 : decode cX12_kindBar 105 = .ok (.ireturn, 1) := by decide +kernel
theorem dX12_kindBar_106 : decode cX12_kindBar 106 = .ok (.iinc 5 1, 3) := by decide +kernel
theorem dX12_kindBar_109 : decode cX12_kindBar 109 = .ok (.goto (-106), 3) := by decide +kernel
theorem dX12_kindBar_112 : decode cX12_kindBar 112 = .ok (.iconst (-1), 1) := by decide +kernel
theorem dX12_kindBar_113 : decode cX12_kindBar 113 = .ok (.ireturn, 1) := by decide +kernel
theorem dX12_fair_0 : decode cX12_fair 0 = .ok (.iload_n 1, 1) := by decide +kernel
theorem dX12_fair_1 : decode cX12_fair 1 = .ok (.iconst 0, 1) := by decide +kernel
theorem dX12_fair_2 : decode cX12_fair 2 = .ok (.bipush 100, 2) := by decide +kernel
theorem dX12_fair_4 : decode cX12_fair 4 = .ok (.invokestatic 402, 3) := by decide +kernel
theorem dX12_fair_7 : decode cX12_fair 7 = .ok (.ifCond .eq 21, 3) := by decide +kernel
theorem dX12_fair_10 : decode cX12_fair 10 = .ok (.iload_n 2, 1) := by decide +kernel
theorem dX12_fair_11 : decode cX12_fair 11 = .ok (.iload_n 3, 1) := by decide +kernel
theorem dX12_fair_12 : decode cX12_fair 12 = .ok (.invokestatic 434, 3) := by decide +kernel
theorem dX12_fair_15 : decode cX12_fair 15 = .ok (.ifCond .eq 13, 3) := by decide +kernel
theorem dX12_fair_18 : decode cX12_fair 18 = .ok (.iload 4, 2) := by decide +kernel
theorem dX12_fair_20 : decode cX12_fair 20 = .ok (.iconst 0, 1) := by decide +kernel
theorem dX12_fair_21 : decode cX12_fair 21 = .ok (.iconst 4, 1) := by decide +kernel
theorem dX12_fair_22 : decode cX12_fair 22 = .ok (.invokestatic 402, 3) := by decide +kernel
theorem dX12_fair_25 : decode cX12_fair 25 = .ok (.ifCond .ne 5, 3) := by decide +kernel
theorem dX12_fair_28 : decode cX12_fair 28 = .ok (.iconst (-1), 1) := by decide +kernel
theorem dX12_fair_29 : decode cX12_fair 29 = .ok (.ireturn, 1) := by decide +kernel
theorem dX12_fair_30 : decode cX12_fair 30 = .ok (.iload 4, 2) := by decide +kernel
theorem dX12_fair_32 : decode cX12_fair 32 = .ok (.iconst 4, 1) := by decide +kernel
theorem dX12_fair_33 : decode cX12_fair 33 = .ok (.if_icmp .ge 13, 3) := by decide +kernel
theorem dX12_fair_36 : decode cX12_fair 36 = .ok (.aload_n 0, 1) := by decide +kernel
theorem dX12_fair_37 : decode cX12_fair 37 = .ok (.iload 4, 2) := by decide +kernel
theorem dX12_fair_39 : decode cX12_fair 39 = .ok (.iload_n 1, 1) := by decide +kernel
theorem dX12_fair_40 : decode cX12_fair 40 = .ok (.iload_n 2, 1) := by decide +kernel
theorem dX12_fair_41 : decode cX12_fair 41 = .ok (.iload_n 3, 1) := by decide +kernel
theorem dX12_fair_42 : decode cX12_fair 42 = .ok (.invokevirtual 521, 3) := by decide +kernel
theorem dX12_fair_45 : decode cX12_fair 45 = .ok (.ireturn, 1) := by decide +kernel
theorem dX12_fair_46 : decode cX12_fair 46 = .ok (.iconst 0, 1) := by decide +kernel
theorem dX12_fair_47 : decode cX12_fair 47 = .ok (.istore 5, 2) := by decide +kernel
theorem dX12_fair_49 : decode cX12_fair 49 = .ok (.iconst 0, 1) := by decide +kernel
theorem dX12_fair_50 : decode cX12_fair 50 = .ok (.istore 6, 2) := by decide +kernel
theorem dX12_fair_52 : decode cX12_fair 52 = .ok (.iload 6, 2) := by decide +kernel
theorem dX12_fair_54 : decode cX12_fair 54 = .ok (.iconst 4, 1) := by decide +kernel
theorem dX12_fair_55 : decode cX12_fair 55 = .ok (.if_icmp .ge 77, 3) := by decide +kernel
theorem dX12_fair_58 : decode cX12_fair 58 = .ok (.aload_n 0, 1) := by decide +kernel
theorem dX12_fair_59 : decode cX12_fair 59 = .ok (.iload 6, 2) := by decide +kernel
theorem dX12_fair_61 : decode cX12_fair 61 = .ok (.iload_n 1, 1) := by decide +kernel
theorem dX12_fair_62 : decode cX12_fair 62 = .ok (.iload_n 2, 1) := by decide +kernel
theorem dX12_fair_63 : decode cX12_fair 63 = .ok (.iload_n 3, 1) := by decide +kernel
theorem dX12_fair_64 : decode cX12_fair 64 = .ok (.invokevirtual 521, 3) := by decide +kernel
theorem dX12_fair_67 : decode cX12_fair 67 = .ok (.istore 7, 2) := by decide +kernel
theorem dX12_fair_69 : decode cX12_fair 69 = .ok (.iconst 0, 1) := by decide +kernel
theorem dX12_fair_70 : decode cX12_fair 70 = .ok (.istore 8, 2) := by decide +kernel
theorem dX12_fair_72 : decode cX12_fair 72 = .ok (.iload 8, 2) := by decide +kernel
theorem dX12_fair_74 : decode cX12_fair 74 = .ok (.aload_n 0, 1) := by decide +kernel
theorem dX12_fair_75 : decode cX12_fair 75 = .ok (.invokevirtual 399, 3) := by decide +kernel
theorem dX12_fair_78 : decode cX12_fair 78 = .ok (.if_icmp .ge 48, 3) := by decide +kernel
theorem dX12_fair_81 : decode cX12_fair 81 = .ok (.iload 5, 2) := by decide +kernel
theorem dX12_fair_83 : decode cX12_fair 83 = .ok (.aload_n 0, 1) := by decide +kernel
theorem dX12_fair_84 : decode cX12_fair 84 = .ok (.getfield 33, 3) := by decide +kernel
theorem dX12_fair_87 : decode cX12_fair 87 = .ok (.bipush 16, 2) := by decide +kernel
theorem dX12_fair_89 : decode cX12_fair 89 = .ok (.aload_n 0, 1) := by decide +kernel
theorem dX12_fair_90 : decode cX12_fair 90 = .ok (.getfield 269, 3) := by decide +kernel
theorem dX12_fair_93 : decode cX12_fair 93 = .ok (.imul, 1) := by decide +kernel
theorem dX12_fair_94 : decode cX12_fair 94 = .ok (.iload 8, 2) := by decide +kernel
theorem dX12_fair_96 : decode cX12_fair 96 = .ok (.iadd, 1) := by decide +kernel
theorem dX12_fair_97 : decode cX12_fair 97 = .ok (.iaload, 1) := by decide +kernel
theorem dX12_fair_98 : decode cX12_fair 98 = .ok (.iload 6, 2) := by decide +kernel
theorem dX12_fair_100 : decode cX12_fair 100 = .ok (.if_icmp .ne 16, 3) := by decide +kernel
theorem dX12_fair_103 : decode cX12_fair 103 = .ok (.aload_n 0, 1) := by decide +kernel
theorem dX12_fair_104 : decode cX12_fair 104 = .ok (.iload 8, 2) := by decide +kernel
theorem dX12_fair_106 : decode cX12_fair 106 = .ok (.iload 7, 2) := by decide +kernel
theorem dX12_fair_108 : decode cX12_fair 108 = .ok (.iload_n 2, 1) := by decide +kernel
theorem dX12_fair_109 : decode cX12_fair 109 = .ok (.iload_n 3, 1) := by decide +kernel
theorem dX12_fair_110 : decode cX12_fair 110 = .ok (.invokevirtual 508, 3) := by decide +kernel
theorem dX12_fair_113 : decode cX12_fair 113 = .ok (.goto 4, 3) := by decide +kernel
theorem dX12_fair_116 : decode cX12_fair 116 = .ok (.iconst 0, 1) := by decide +kernel
theorem dX12_fair_117 : decode cX12_fair 117 = .ok (.iadd, 1) := by decide +kernel
theorem dX12_fair_118 : decode cX12_fair 118 = .ok (.istore 5, 2) := by decide +kernel
theorem dX12_fair_120 : decode cX12_fair 120 = .ok (.iinc 8 1, 3) := by decide +kernel
theorem dX12_fair_123 : decode cX12_fair 123 = .ok (.goto (-51), 3) := by decide +kernel
theorem dX12_fair_126 : decode cX12_fair 126 = .ok (.iinc 6 1, 3) := by decide +kernel
theorem dX12_fair_129 : decode cX12_fair 129 = .ok (.goto (-77), 3) := by decide +kernel
theorem dX12_fair_132 : decode cX12_fair 132 = .ok (.iload 5, 2) := by decide +kernel
theorem dX12_fair_134 : decode cX12_fair 134 = .ok (.ireturn, 1) := by decide +kernel
theorem dX12_measure_0 : decode cX12_measure 0 = .ok (.iconst (-1), 1) := by decide +kernel
theorem dX12_measure_1 : decode cX12_measure 1 = .ok (.istore_n 3, 1) := by decide +kernel
theorem dX12_measure_2 : decode cX12_measure 2 = .ok (.iconst 0, 1) := by decide +kernel
theorem dX12_measure_3 : decode cX12_measure 3 = .ok (.istore 4, 2) := by decide +kernel
theorem dX12_measure_5 : decode cX12_measure 5 = .ok (.iload 4, 2) := by decide +kernel
theorem dX12_measure_7 : decode cX12_measure 7 = .ok (.aload_n 0, 1) := by decide +kernel
theorem dX12_measure_8 : decode cX12_measure 8 = .ok (.invokevirtual 399, 3) := by decide +kernel
theorem dX12_measure_11 : decode cX12_measure 11 = .ok (.if_icmp .ge 104, 3) := by decide +kernel
theorem dX12_measure_14 : decode cX12_measure 14 = .ok (.iconst 0, 1) := by decide +kernel
theorem dX12_measure_15 : decode cX12_measure 15 = .ok (.istore 5, 2) := by decide +kernel
theorem dX12_measure_17 : decode cX12_measure 17 = .ok (.iload 5, 2) := by decide +kernel
theorem dX12_measure_19 : decode cX12_measure 19 = .ok (.aload_n 0, 1) := by decide +kernel
theorem dX12_measure_20 : decode cX12_measure 20 = .ok (.invokevirtual 399, 3) := by decide +kernel
theorem dX12_measure_23 : decode cX12_measure 23 = .ok (.if_icmp .ge 86, 3) := by decide +kernel
theorem dX12_measure_26 : decode cX12_measure 26 = .ok (.iload 4, 2) := by decide +kernel
theorem dX12_measure_28 : decode cX12_measure 28 = .ok (.iload 5, 2) := by decide +kernel
theorem dX12_measure_30 : decode cX12_measure 30 = .ok (.if_icmp .eq 73, 3) := by decide +kernel
theorem dX12_measure_33 : decode cX12_measure 33 = .ok (.aload_n 0, 1) := by decide +kernel
theorem dX12_measure_34 : decode cX12_measure 34 = .ok (.getfield 33, 3) := by decide +kernel
theorem dX12_measure_37 : decode cX12_measure 37 = .ok (.bipush 16, 2) := by decide +kernel
theorem dX12_measure_39 : decode cX12_measure 39 = .ok (.aload_n 0, 1) := by decide +kernel
theorem dX12_measure_40 : decode cX12_measure 40 = .ok (.getfield 269, 3) := by decide +kernel
theorem dX12_measure_43 : decode cX12_measure 43 = .ok (.imul, 1) := by decide +kernel
theorem dX12_measure_44 : decode cX12_measure 44 = .ok (.iload 4, 2) := by decide +kernel
theorem dX12_measure_46 : decode cX12_measure 46 = .ok (.iadd, 1) := by decide +kernel
theorem dX12_measure_47 : decode cX12_measure 47 = .ok (.iaload, 1) := by decide +kernel
theorem dX12_measure_48 : decode cX12_measure 48 = .ok (.iload_n 1, 1) := by decide +kernel
theorem dX12_measure_49 : decode cX12_measure 49 = .ok (.if_icmp .ne 54, 3) := by decide +kernel
theorem dX12_measure_52 : decode cX12_measure 52 = .ok (.aload_n 0, 1) := by decide +kernel
theorem dX12_measure_53 : decode cX12_measure 53 = .ok (.getfield 33, 3) := by decide +kernel
theorem dX12_measure_56 : decode cX12_measure 56 = .ok (.bipush 16, 2) := by decide +kernel
theorem dX12_measure_58 : decode cX12_measure 58 = .ok (.aload_n 0, 1) := by decide +kernel
theorem dX12_measure_59 : decode cX12_measure 59 = .ok (.getfield 269, 3) := by decide +kernel
theorem dX12_measure_62 : decode cX12_measure 62 = .ok (.imul, 1) := by decide +kernel
theorem dX12_measure_63 : decode cX12_measure 63 = .ok (.iload 5, 2) := by decide +kernel
theorem dX12_measure_65 : decode cX12_measure 65 = .ok (.iadd, 1) := by decide +kernel
theorem dX12_measure_66 : decode cX12_measure 66 = .ok (.iaload, 1) := by decide +kernel
theorem dX12_measure_67 : decode cX12_measure 67 = .ok (.iload_n 2, 1) := by decide +kernel
theorem dX12_measure_68 : decode cX12_measure 68 = .ok (.if_icmp .eq 6, 3) := by decide +kernel
theorem dX12_measure_71 : decode cX12_measure 71 = .ok (.goto 32, 3) := by decide +kernel
theorem dX12_measure_74 : decode cX12_measure 74 = .ok (.aload_n 0, 1) := by decide +kernel
theorem dX12_measure_75 : decode cX12_measure 75 = .ok (.iload 4, 2) := by decide +kernel
theorem dX12_measure_77 : decode cX12_measure 77 = .ok (.iconst 0, 1) := by decide +kernel
theorem dX12_measure_78 : decode cX12_measure 78 = .ok (.iload 5, 2) := by decide +kernel
theorem dX12_measure_80 : decode cX12_measure 80 = .ok (.iconst 0, 1) := by decide +kernel
theorem dX12_measure_81 : decode cX12_measure 81 = .ok (.invokevirtual 524, 3) := by decide +kernel
theorem dX12_measure_84 : decode cX12_measure 84 = .ok (.istore 6, 2) := by decide +kernel
theorem dX12_measure_86 : decode cX12_measure 86 = .ok (.iload_n 3, 1) := by decide +kernel
theorem dX12_measure_87 : decode cX12_measure 87 = .ok (.ifCond .lt 9, 3) := by decide +kernel
theorem dX12_measure_90 : decode cX12_measure 90 = .ok (.iload 6, 2) := by decide +kernel
theorem dX12_measure_92 : decode cX12_measure 92 = .ok (.iload_n 3, 1) := by decide +kernel
theorem dX12_measure_93 : decode cX12_measure 93 = .ok (.if_icmp .ge 8, 3) := by decide +kernel
theorem dX12_measure_96 : decode cX12_measure 96 = .ok (.iload 6, 2) := by decide +kernel
theorem dX12_measure_98 : decode cX12_measure 98 = .ok (.goto 4, 3) := by decide +kernel
theorem dX12_measure_101 : decode cX12_measure 101 = .ok (.iload_n 3, 1) := by decide +kernel
theorem dX12_measure_102 : decode cX12_measure 102 = .ok (.istore_n 3, 1) := by decide +kernel
theorem dX12_measure_103 : decode cX12_measure 103 = .ok (.iinc 5 1, 3) := by decide +kernel
theorem dX12_measure_106 : decode cX12_measure 106 = .ok (.goto (-89), 3) := by decide +kernel
theorem dX12_measure_109 : decode cX12_measure 109 = .ok (.iinc 4 1, 3) := by decide +kernel
theorem dX12_measure_112 : decode cX12_measure 112 = .ok (.goto (-107), 3) := by decide +kernel
theorem dX12_measure_115 : decode cX12_measure 115 = .ok (.iload_n 3, 1) := by decide +kernel
theorem dX12_measure_116 : decode cX12_measure 116 = .ok (.ireturn, 1) := by decide +kernel
theorem dX12_image_0 : decode cX12_image 0 = .ok (.iload_n 1, 1) := by decide +kernel
theorem dX12_image_1 : decode cX12_image 1 = .ok (.iconst 0, 1) := by decide +kernel
theorem dX12_image_2 : decode cX12_image 2 = .ok (.iconst 2, 1) := by decide +kernel
theorem dX12_image_3 : decode cX12_image 3 = .ok (.invokestatic 402, 3) := by decide +kernel
theorem dX12_image_6 : decode cX12_image 6 = .ok (.ifCond .ne 5, 3) := by decide +kernel
theorem dX12_image_9 : decode cX12_image 9 = .ok (.iconst (-1), 1) := by decide +kernel
theorem dX12_image_10 : decode cX12_image 10 = .ok (.ireturn, 1) := by decide +kernel
theorem dX12_image_11 : decode cX12_image 11 = .ok (.aload_n 0, 1) := by decide +kernel
theorem dX12_image_12 : decode cX12_image 12 = .ok (.getfield 116, 3) := by decide +kernel
theorem dX12_image_15 : decode cX12_image 15 = .ok (.iload_n 1, 1) := by decide +kernel
theorem dX12_image_16 : decode cX12_image 16 = .ok (.aload_n 0, 1) := by decide +kernel
theorem dX12_image_17 : decode cX12_image 17 = .ok (.getfield 275, 3) := by decide +kernel
theorem dX12_image_20 : decode cX12_image 20 = .ok (.iastore, 1) := by decide +kernel
theorem dX12_image_21 : decode cX12_image 21 = .ok (.aload_n 0, 1) := by decide +kernel
theorem dX12_image_22 : decode cX12_image 22 = .ok (.getfield 119, 3) := by decide +kernel
theorem dX12_image_25 : decode cX12_image 25 = .ok (.iload_n 1, 1) := by decide +kernel
theorem dX12_image_26 : decode cX12_image 26 = .ok (.aload_n 0, 1) := by decide +kernel
theorem dX12_image_27 : decode cX12_image 27 = .ok (.getfield 458, 3) := by decide +kernel
theorem dX12_image_30 : decode cX12_image 30 = .ok (.iastore, 1) := by decide +kernel
theorem dX12_image_31 : decode cX12_image 31 = .ok (.iconst 0, 1) := by decide +kernel
theorem dX12_image_32 : decode cX12_image 32 = .ok (.istore_n 2, 1) := by decide +kernel
theorem dX12_image_33 : decode cX12_image 33 = .ok (.iload_n 2, 1) := by decide +kernel
theorem dX12_image_34 : decode cX12_image 34 = .ok (.aload_n 0, 1) := by decide +kernel
theorem dX12_image_35 : decode cX12_image 35 = .ok (.getfield 275, 3) := by decide +kernel
theorem dX12_image_38 : decode cX12_image 38 = .ok (.if_icmp .ge 88, 3) := by decide +kernel
theorem dX12_image_41 : decode cX12_image 41 = .ok (.bipush 40, 2) := by decide +kernel
theorem dX12_image_43 : decode cX12_image 43 = .ok (.iload_n 1, 1) := by decide +kernel
theorem dX12_image_44 : decode cX12_image 44 = .ok (.imul, 1) := by decide +kernel
theorem dX12_image_45 : decode cX12_image 45 = .ok (.iload_n 2, 1) := by decide +kernel
theorem dX12_image_46 : decode cX12_image 46 = .ok (.iadd, 1) := by decide +kernel
theorem dX12_image_47 : decode cX12_image 47 = .ok (.istore_n 3, 1) := by decide +kernel
theorem dX12_image_48 : decode cX12_image 48 = .ok (.aload_n 0, 1) := by decide +kernel
theorem dX12_image_49 : decode cX12_image 49 = .ok (.getfield 122, 3) := by decide +kernel
theorem dX12_image_52 : decode cX12_image 52 = .ok (.iload_n 3, 1) := by decide +kernel
theorem dX12_image_53 : decode cX12_image 53 = .ok (.aload_n 0, 1) := by decide +kernel
theorem dX12_image_54 : decode cX12_image 54 = .ok (.getfield 95, 3) := by decide +kernel
theorem dX12_image_57 : decode cX12_image 57 = .ok (.iload_n 2, 1) := by decide +kernel
theorem dX12_image_58 : decode cX12_image 58 = .ok (.iaload, 1) := by decide +kernel
theorem dX12_image_59 : decode cX12_image 59 = .ok (.iastore, 1) := by decide +kernel
theorem dX12_image_60 : decode cX12_image 60 = .ok (.aload_n 0, 1) := by decide +kernel
theorem dX12_image_61 : decode cX12_image 61 = .ok (.getfield 125, 3) := by decide +kernel
theorem dX12_image_64 : decode cX12_image 64 = .ok (.iload_n 3, 1) := by decide +kernel
theorem dX12_image_65 : decode cX12_image 65 = .ok (.aload_n 0, 1) := by decide +kernel
theorem dX12_image_66 : decode cX12_image 66 = .ok (.getfield 98, 3) := by decide +kernel
theorem dX12_image_69 : decode cX12_image 69 = .ok (.iload_n 2, 1) := by decide +kernel
theorem dX12_image_70 : decode cX12_image 70 = .ok (.iaload, 1) := by decide +kernel
theorem dX12_image_71 : decode cX12_image 71 = .ok (.iastore, 1) := by decide +kernel
theorem dX12_image_72 : decode cX12_image 72 = .ok (.aload_n 0, 1) := by decide +kernel
theorem dX12_image_73 : decode cX12_image 73 = .ok (.getfield 128, 3) := by decide +kernel
theorem dX12_image_76 : decode cX12_image 76 = .ok (.iload_n 3, 1) := by decide +kernel
theorem dX12_image_77 : decode cX12_image 77 = .ok (.aload_n 0, 1) := by decide +kernel
theorem dX12_image_78 : decode cX12_image 78 = .ok (.getfield 101, 3) := by decide +kernel
theorem dX12_image_81 : decode cX12_image 81 = .ok (.iload_n 2, 1) := by decide +kernel
theorem dX12_image_82 : decode cX12_image 82 = .ok (.iaload, 1) := by decide +kernel
theorem dX12_image_83 : decode cX12_image 83 = .ok (.iastore, 1) := by decide +kernel
theorem dX12_image_84 : decode cX12_image 84 = .ok (.aload_n 0, 1) := by decide +kernel
theorem dX12_image_85 : decode cX12_image 85 = .ok (.getfield 131, 3) := by decide +kernel
theorem dX12_image_88 : decode cX12_image 88 = .ok (.iload_n 3, 1) := by decide +kernel
theorem dX12_image_89 : decode cX12_image 89 = .ok (.aload_n 0, 1) := by decide +kernel
theorem dX12_image_90 : decode cX12_image 90 = .ok (.getfield 104, 3) := by decide +kernel
theorem dX12_image_93 : decode cX12_image 93 = .ok (.iload_n 2, 1) := by decide +kernel
theorem dX12_image_94 : decode cX12_image 94 = .ok (.iaload, 1) := by decide +kernel
theorem dX12_image_95 : decode cX12_image 95 = .ok (.iastore, 1) := by decide +kernel
theorem dX12_image_96 : decode cX12_image 96 = .ok (.aload_n 0, 1) := by decide +kernel
theorem dX12_image_97 : decode cX12_image 97 = .ok (.getfield 134, 3) := by decide +kernel
theorem dX12_image_100 : decode cX12_image 100 = .ok (.iload_n 3, 1) := by decide +kernel
theorem dX12_image_101 : decode cX12_image 101 = .ok (.aload_n 0, 1) := by decide +kernel
theorem dX12_image_102 : decode cX12_image 102 = .ok (.getfield 107, 3) := by decide +kernel
theorem dX12_image_105 : decode cX12_image 105 = .ok (.iload_n 2, 1) := by decide +kernel
theorem dX12_image_106 : decode cX12_image 106 = .ok (.iaload, 1) := by decide +kernel
theorem dX12_image_107 : decode cX12_image 107 = .ok (.iastore, 1) := by decide +kernel
theorem dX12_image_108 : decode cX12_image 108 = .ok (.aload_n 0, 1) := by decide +kernel
theorem dX12_image_109 : decode cX12_image 109 = .ok (.getfield 137, 3) := by decide +kernel
theorem dX12_image_112 : decode cX12_image 112 = .ok (.iload_n 3, 1) := by decide +kernel
theorem dX12_image_113 : decode cX12_image 113 = .ok (.aload_n 0, 1) := by decide +kernel
theorem dX12_image_114 : decode cX12_image 114 = .ok (.getfield 110, 3) := by decide +kernel
theorem dX12_image_117 : decode cX12_image 117 = .ok (.iload_n 2, 1) := by decide +kernel
theorem dX12_image_118 : decode cX12_image 118 = .ok (.iaload, 1) := by decide +kernel
theorem dX12_image_119 : decode cX12_image 119 = .ok (.iastore, 1) := by decide +kernel
theorem dX12_image_120 : decode cX12_image 120 = .ok (.iinc 2 1, 3) := by decide +kernel
theorem dX12_image_123 : decode cX12_image 123 = .ok (.goto (-90), 3) := by decide +kernel
theorem dX12_image_126 : decode cX12_image 126 = .ok (.aload_n 0, 1) := by decide +kernel
theorem dX12_image_127 : decode cX12_image 127 = .ok (.getfield 275, 3) := by decide +kernel
theorem dX12_image_130 : decode cX12_image 130 = .ok (.ireturn, 1) := by decide +kernel
theorem dX12_back_0 : decode cX12_back 0 = .ok (.iload_n 1, 1) := by decide +kernel
theorem dX12_back_1 : decode cX12_back 1 = .ok (.iconst 0, 1) := by decide +kernel
theorem dX12_back_2 : decode cX12_back 2 = .ok (.iconst 2, 1) := by decide +kernel
theorem dX12_back_3 : decode cX12_back 3 = .ok (.invokestatic 402, 3) := by decide +kernel
theorem dX12_back_6 : decode cX12_back 6 = .ok (.ifCond .eq 12, 3) := by decide +kernel
theorem dX12_back_9 : decode cX12_back 9 = .ok (.aload_n 0, 1) := by decide +kernel
theorem dX12_back_10 : decode cX12_back 10 = .ok (.getfield 116, 3) := by decide +kernel
theorem dX12_back_13 : decode cX12_back 13 = .ok (.iload_n 1, 1) := by decide +kernel
theorem dX12_back_14 : decode cX12_back 14 = .ok (.iaload, 1) := by decide +kernel
theorem dX12_back_15 : decode cX12_back 15 = .ok (.ifCond .ge 5, 3) := by decide +kernel
theorem dX12_back_18 : decode cX12_back 18 = .ok (.iconst (-1), 1) := by decide +kernel
theorem dX12_back_19 : decode cX12_back 19 = .ok (.ireturn, 1) := by decide +kernel
theorem dX12_back_20 : decode cX12_back 20 = .ok (.aload_n 0, 1) := by decide +kernel
theorem dX12_back_21 : decode cX12_back 21 = .ok (.aload_n 0, 1) := by decide +kernel
theorem dX12_back_22 : decode cX12_back 22 = .ok (.getfield 116, 3) := by decide +kernel
theorem dX12_back_25 : decode cX12_back 25 = .ok (.iload_n 1, 1) := by decide +kernel
theorem dX12_back_26 : decode cX12_back 26 = .ok (.iaload, 1) := by decide +kernel
theorem dX12_back_27 : decode cX12_back 27 = .ok (.putfield 275, 3) := by decide +kernel
theorem dX12_back_30 : decode cX12_back 30 = .ok (.aload_n 0, 1) := by decide +kernel
theorem dX12_back_31 : decode cX12_back 31 = .ok (.aload_n 0, 1) := by decide +kernel
theorem dX12_back_32 : decode cX12_back 32 = .ok (.getfield 119, 3) := by decide +kernel
theorem dX12_back_35 : decode cX12_back 35 = .ok (.iload_n 1, 1) := by decide +kernel
theorem dX12_back_36 : decode cX12_back 36 = .ok (.iaload, 1) := by decide +kernel
theorem dX12_back_37 : decode cX12_back 37 = .ok (.putfield 458, 3) := by decide +kernel
theorem dX12_back_40 : decode cX12_back 40 = .ok (.iconst 0, 1) := by decide +kernel
theorem dX12_back_41 : decode cX12_back 41 = .ok (.istore_n 2, 1) := by decide +kernel
theorem dX12_back_42 : decode cX12_back 42 = .ok (.iload_n 2, 1) := by decide +kernel
theorem dX12_back_43 : decode cX12_back 43 = .ok (.aload_n 0, 1) := by decide +kernel
theorem dX12_back_44 : decode cX12_back 44 = .ok (.getfield 275, 3) := by decide +kernel
theorem dX12_back_47 : decode cX12_back 47 = .ok (.if_icmp .ge 88, 3) := by decide +kernel
theorem dX12_back_50 : decode cX12_back 50 = .ok (.bipush 40, 2) := by decide +kernel
theorem dX12_back_52 : decode cX12_back 52 = .ok (.iload_n 1, 1) := by decide +kernel
theorem dX12_back_53 : decode cX12_back 53 = .ok (.imul, 1) := by decide +kernel
theorem dX12_back_54 : decode cX12_back 54 = .ok (.iload_n 2, 1) := by decide +kernel
theorem dX12_back_55 : decode cX12_back 55 = .ok (.iadd, 1) := by decide +kernel
theorem dX12_back_56 : decode cX12_back 56 = .ok (.istore_n 3, 1) := by decide +kernel
theorem dX12_back_57 : decode cX12_back 57 = .ok (.aload_n 0, 1) := by decide +kernel
theorem dX12_back_58 : decode cX12_back 58 = .ok (.getfield 95, 3) := by decide +kernel
theorem dX12_back_61 : decode cX12_back 61 = .ok (.iload_n 2, 1) := by decide +kernel
theorem dX12_back_62 : decode cX12_back 62 = .ok (.aload_n 0, 1) := by decide +kernel
theorem dX12_back_63 : decode cX12_back 63 = .ok (.getfield 122, 3) := by decide +kernel
theorem dX12_back_66 : decode cX12_back 66 = .ok (.iload_n 3, 1) := by decide +kernel
theorem dX12_back_67 : decode cX12_back 67 = .ok (.iaload, 1) := by decide +kernel
theorem dX12_back_68 : decode cX12_back 68 = .ok (.iastore, 1) := by decide +kernel
theorem dX12_back_69 : decode cX12_back 69 = .ok (.aload_n 0, 1) := by decide +kernel
theorem dX12_back_70 : decode cX12_back 70 = .ok (.getfield 98, 3) := by decide +kernel
theorem dX12_back_73 : decode cX12_back 73 = .ok (.iload_n 2, 1) := by decide +kernel
theorem dX12_back_74 : decode cX12_back 74 = .ok (.aload_n 0, 1) := by decide +kernel
theorem dX12_back_75 : decode cX12_back 75 = .ok (.getfield 125, 3) := by decide +kernel
theorem dX12_back_78 : decode cX12_back 78 = .ok (.iload_n 3, 1) := by decide +kernel
theorem dX12_back_79 : decode cX12_back 79 = .ok (.iaload, 1) := by decide +kernel
theorem dX12_back_80 : decode cX12_back 80 = .ok (.iastore, 1) := by decide +kernel
theorem dX12_back_81 : decode cX12_back 81 = .ok (.aload_n 0, 1) := by decide +kernel
theorem dX12_back_82 : decode cX12_back 82 = .ok (.getfield 101, 3) := by decide +kernel
theorem dX12_back_85 : decode cX12_back 85 = .ok (.iload_n 2, 1) := by decide +kernel
theorem dX12_back_86 : decode cX12_back 86 = .ok (.aload_n 0, 1) := by decide +kernel
theorem dX12_back_87 : decode cX12_back 87 = .ok (.getfield 128, 3) := by decide +kernel
theorem dX12_back_90 : decode cX12_back 90 = .ok (.iload_n 3, 1) := by decide +kernel
theorem dX12_back_91 : decode cX12_back 91 = .ok (.iaload, 1) := by decide +kernel
theorem dX12_back_92 : decode cX12_back 92 = .ok (.iastore, 1) := by decide +kernel
theorem dX12_back_93 : decode cX12_back 93 = .ok (.aload_n 0, 1) := by decide +kernel
theorem dX12_back_94 : decode cX12_back 94 = .ok (.getfield 104, 3) := by decide +kernel
theorem dX12_back_97 : decode cX12_back 97 = .ok (.iload_n 2, 1) := by decide +kernel
theorem dX12_back_98 : decode cX12_back 98 = .ok (.aload_n 0, 1) := by decide +kernel
theorem dX12_back_99 : decode cX12_back 99 = .ok (.getfield 131, 3) := by decide +kernel
theorem dX12_back_102 : decode cX12_back 102 = .ok (.iload_n 3, 1) := by decide +kernel
theorem dX12_back_103 : decode cX12_back 103 = .ok (.iaload, 1) := by decide +kernel
theorem dX12_back_104 : decode cX12_back 104 = .ok (.iastore, 1) := by decide +kernel
theorem dX12_back_105 : decode cX12_back 105 = .ok (.aload_n 0, 1) := by decide +kernel
theorem dX12_back_106 : decode cX12_back 106 = .ok (.getfield 107, 3) := by decide +kernel
theorem dX12_back_109 : decode cX12_back 109 = .ok (.iload_n 2, 1) := by decide +kernel
theorem dX12_back_110 : decode cX12_back 110 = .ok (.aload_n 0, 1) := by decide +kernel
theorem dX12_back_111 : decode cX12_back 111 = .ok (.getfield 134, 3) := by decide +kernel
theorem dX12_back_114 : decode cX12_back 114 = .ok (.iload_n 3, 1) := by decide +kernel
theorem dX12_back_115 : decode cX12_back 115 = .ok (.iaload, 1) := by decide +kernel
theorem dX12_back_116 : decode cX12_back 116 = .ok (.iastore, 1) := by decide +kernel
theorem dX12_back_117 : decode cX12_back 117 = .ok (.aload_n 0, 1) := by decide +kernel
theorem dX12_back_118 : decode cX12_back 118 = .ok (.getfield 110, 3) := by decide +kernel
theorem dX12_back_121 : decode cX12_back 121 = .ok (.iload_n 2, 1) := by decide +kernel
theorem dX12_back_122 : decode cX12_back 122 = .ok (.aload_n 0, 1) := by decide +kernel
theorem dX12_back_123 : decode cX12_back 123 = .ok (.getfield 137, 3) := by decide +kernel
theorem dX12_back_126 : decode cX12_back 126 = .ok (.iload_n 3, 1) := by decide +kernel
theorem dX12_back_127 : decode cX12_back 127 = .ok (.iaload, 1) := by decide +kernel
theorem dX12_back_128 : decode cX12_back 128 = .ok (.iastore, 1) := by decide +kernel
theorem dX12_back_129 : decode cX12_back 129 = .ok (.iinc 2 1, 3) := by decide +kernel
theorem dX12_back_132 : decode cX12_back 132 = .ok (.goto (-90), 3) := by decide +kernel
theorem dX12_back_135 : decode cX12_back 135 = .ok (.aload_n 0, 1) := by decide +kernel
theorem dX12_back_136 : decode cX12_back 136 = .ok (.getfield 275, 3) := by decide +kernel
theorem dX12_back_139 : decode cX12_back 139 = .ok (.ireturn, 1) := by decide +kernel
theorem dX12_about_0 : decode cX12_about 0 = .ok (.iload_n 1, 1) := by decide +kernel
theorem dX12_about_1 : decode cX12_about 1 = .ok (.tableswitch 106 0 8 #[51, 56, 61, 66, 71, 76, 81, 86, 96], 51) := by decide +kernel
theorem dX12_about_52 : decode cX12_about 52 = .ok (.aload_n 0, 1) := by decide +kernel
theorem dX12_about_53 : decode cX12_about 53 = .ok (.invokevirtual 399, 3) := by decide +kernel
theorem dX12_about_56 : decode cX12_about 56 = .ok (.ireturn, 1) := by decide +kernel
theorem dX12_about_57 : decode cX12_about 57 = .ok (.aload_n 0, 1) := by decide +kernel
theorem dX12_about_58 : decode cX12_about 58 = .ok (.invokevirtual 406, 3) := by decide +kernel
theorem dX12_about_61 : decode cX12_about 61 = .ok (.ireturn, 1) := by decide +kernel
theorem dX12_about_62 : decode cX12_about 62 = .ok (.aload_n 0, 1) := by decide +kernel
theorem dX12_about_63 : decode cX12_about 63 = .ok (.getfield 281, 3) := by decide +kernel
theorem dX12_about_66 : decode cX12_about 66 = .ok (.ireturn, 1) := by decide +kernel
theorem dX12_about_67 : decode cX12_about 67 = .ok (.aload_n 0, 1) := by decide +kernel
theorem dX12_about_68 : decode cX12_about 68 = .ok (.getfield 275, 3) := by decide +kernel
theorem dX12_about_71 : decode cX12_about 71 = .ok (.ireturn, 1) := by decide +kernel
theorem dX12_about_72 : decode cX12_about 72 = .ok (.aload_n 0, 1) := by decide +kernel
theorem dX12_about_73 : decode cX12_about 73 = .ok (.getfield 458, 3) := by decide +kernel
theorem dX12_about_76 : decode cX12_about 76 = .ok (.ireturn, 1) := by decide +kernel
theorem dX12_about_77 : decode cX12_about 77 = .ok (.aload_n 0, 1) := by decide +kernel
theorem dX12_about_78 : decode cX12_about 78 = .ok (.getfield 260, 3) := by decide +kernel
theorem dX12_about_81 : decode cX12_about 81 = .ok (.ireturn, 1) := by decide +kernel
theorem dX12_about_82 : decode cX12_about 82 = .ok (.aload_n 0, 1) := by decide +kernel
theorem dX12_about_83 : decode cX12_about 83 = .ok (.getfield 284, 3) := by decide +kernel
theorem dX12_about_86 : decode cX12_about 86 = .ok (.ireturn, 1) := by decide +kernel
theorem dX12_about_87 : decode cX12_about 87 = .ok (.aload_n 0, 1) := by decide +kernel
theorem dX12_about_88 : decode cX12_about 88 = .ok (.getfield 27, 3) := by decide +kernel
theorem dX12_about_91 : decode cX12_about 91 = .ok (.aload_n 0, 1) := by decide +kernel
theorem dX12_about_92 : decode cX12_about 92 = .ok (.getfield 269, 3) := by decide +kernel
theorem dX12_about_95 : decode cX12_about 95 = .ok (.iaload, 1) := by decide +kernel
theorem dX12_about_96 : decode cX12_about 96 = .ok (.ireturn, 1) := by decide +kernel
theorem dX12_about_97 : decode cX12_about 97 = .ok (.aload_n 0, 1) := by decide +kernel
theorem dX12_about_98 : decode cX12_about 98 = .ok (.getfield 30, 3) := by decide +kernel
theorem dX12_about_101 : decode cX12_about 101 = .ok (.aload_n 0, 1) := by decide +kernel
theorem dX12_about_102 : decode cX12_about 102 = .ok (.getfield 269, 3) := by decide +kernel
theorem dX12_about_105 : decode cX12_about 105 = .ok (.iaload, 1) := by decide +kernel
theorem dX12_about_106 : decode cX12_about 106 = .ok (.ireturn, 1) := by decide +kernel
theorem dX12_about_107 : decode cX12_about 107 = .ok (.iconst (-1), 1) := by decide +kernel
theorem dX12_about_108 : decode cX12_about 108 = .ok (.ireturn, 1) := by decide +kernel
theorem dX12_feed_0 : decode cX12_feed 0 = .ok (.aload_n 0, 1) := by decide +kernel
theorem dX12_feed_1 : decode cX12_feed 1 = .ok (.getfield 260, 3) := by decide +kernel
theorem dX12_feed_4 : decode cX12_feed 4 = .ok (.bipush 20, 2) := by decide +kernel
theorem dX12_feed_6 : decode cX12_feed 6 = .ok (.iadd, 1) := by decide +kernel
theorem dX12_feed_7 : decode cX12_feed 7 = .ok (.sipush 1600, 3) := by decide +kernel
theorem dX12_feed_10 : decode cX12_feed 10 = .ok (.if_icmp .le 5, 3) := by decide +kernel
theorem dX12_feed_13 : decode cX12_feed 13 = .ok (.iconst (-1), 1) := by decide +kernel
theorem dX12_feed_14 : decode cX12_feed 14 = .ok (.ireturn, 1) := by decide +kernel
theorem dX12_feed_15 : decode cX12_feed 15 = .ok (.iconst 0, 1) := by decide +kernel
theorem dX12_feed_16 : decode cX12_feed 16 = .ok (.istore 6, 2) := by decide +kernel
theorem dX12_feed_18 : decode cX12_feed 18 = .ok (.iload 6, 2) := by decide +kernel
theorem dX12_feed_20 : decode cX12_feed 20 = .ok (.bipush 20, 2) := by decide +kernel
theorem dX12_feed_22 : decode cX12_feed 22 = .ok (.if_icmp .ge 83, 3) := by decide +kernel
theorem dX12_feed_25 : decode cX12_feed 25 = .ok (.iload 6, 2) := by decide +kernel
theorem dX12_feed_27 : decode cX12_feed 27 = .ok (.iconst 4, 1) := by decide +kernel
theorem dX12_feed_28 : decode cX12_feed 28 = .ok (.if_icmp .ge 7, 3) := by decide +kernel
theorem dX12_feed_31 : decode cX12_feed 31 = .ok (.iload_n 1, 1) := by decide +kernel
theorem dX12_feed_32 : decode cX12_feed 32 = .ok (.goto 39, 3) := by decide +kernel
theorem dX12_feed_35 : decode cX12_feed 35 = .ok (.iload 6, 2) := by decide +kernel
theorem dX12_feed_37 : decode cX12_feed 37 = .ok (.bipush 8, 2) := by decide +kernel
theorem dX12_feed_39 : decode cX12_feed 39 = .ok (.if_icmp .ge 7, 3) := by decide +kernel
theorem dX12_feed_42 : decode cX12_feed 42 = .ok (.iload_n 2, 1) := by decide +kernel
theorem dX12_feed_43 : decode cX12_feed 43 = .ok (.goto 28, 3) := by decide +kernel
theorem dX12_feed_46 : decode cX12_feed 46 = .ok (.iload 6, 2) := by decide +kernel
theorem dX12_feed_48 : decode cX12_feed 48 = .ok (.bipush 12, 2) := by decide +kernel
theorem dX12_feed_50 : decode cX12_feed 50 = .ok (.if_icmp .ge 7, 3) := by decide +kernel
theorem dX12_feed_53 : decode cX12_feed 53 = .ok (.iload_n 3, 1) := by decide +kernel
theorem dX12_feed_54 : decode cX12_feed 54 = .ok (.goto 17, 3) := by decide +kernel
theorem dX12_feed_57 : decode cX12_feed 57 = .ok (.iload 6, 2) := by decide +kernel
theorem dX12_feed_59 : decode cX12_feed 59 = .ok (.bipush 16, 2) := by decide +kernel
theorem dX12_feed_61 : decode cX12_feed 61 = .ok (.if_icmp .ge 8, 3) := by decide +kernel
theorem dX12_feed_64 : decode cX12_feed 64 = .ok (.iload 4, 2) := by decide +kernel
theorem dX12_feed_66 : decode cX12_feed 66 = .ok (.goto 5, 3) := by decide +kernel
theorem dX12_feed_69 : decode cX12_feed 69 = .ok (.iload 5, 2) := by decide +kernel
theorem dX12_feed_71 : decode cX12_feed 71 = .ok (.istore 7, 2) := by decide +kernel
theorem dX12_feed_73 : decode cX12_feed 73 = .ok (.aload_n 0, 1) := by decide +kernel
theorem dX12_feed_74 : decode cX12_feed 74 = .ok (.getfield 7, 3) := by decide +kernel
theorem dX12_feed_77 : decode cX12_feed 77 = .ok (.aload_n 0, 1) := by decide +kernel
theorem dX12_feed_78 : decode cX12_feed 78 = .ok (.getfield 260, 3) := by decide +kernel
theorem dX12_feed_81 : decode cX12_feed 81 = .ok (.iload 6, 2) := by decide +kernel
theorem dX12_feed_83 : decode cX12_feed 83 = .ok (.iadd, 1) := by decide +kernel
theorem dX12_feed_84 : decode cX12_feed 84 = .ok (.iload 7, 2) := by decide +kernel
theorem dX12_feed_86 : decode cX12_feed 86 = .ok (.bipush 24, 2) := by decide +kernel
theorem dX12_feed_88 : decode cX12_feed 88 = .ok (.bipush 8, 2) := by decide +kernel
theorem dX12_feed_90 : decode cX12_feed 90 = .ok (.iload 6, 2) := by decide +kernel
theorem dX12_feed_92 : decode cX12_feed 92 = .ok (.iconst 3, 1) := by decide +kernel
theorem dX12_feed_93 : decode cX12_feed 93 = .ok (.iand, 1) := by decide +kernel
theorem dX12_feed_94 : decode cX12_feed 94 = .ok (.imul, 1) := by decide +kernel
theorem dX12_feed_95 : decode cX12_feed 95 = .ok (.isub, 1) := by decide +kernel
theorem dX12_feed_96 : decode cX12_feed 96 = .ok (.ishr, 1) := by decide +kernel
theorem dX12_feed_97 : decode cX12_feed 97 = .ok (.i2b, 1) := by decide +kernel
theorem dX12_feed_98 : decode cX12_feed 98 = .ok (.bastore, 1) := by decide +kernel
theorem dX12_feed_99 : decode cX12_feed 99 = .ok (.iinc 6 1, 3) := by decide +kernel
theorem dX12_feed_102 : decode cX12_feed 102 = .ok (.goto (-84), 3) := by decide +kernel
theorem dX12_feed_105 : decode cX12_feed 105 = .ok (.aload_n 0, 1) := by decide +kernel
theorem dX12_feed_106 : decode cX12_feed 106 = .ok (.dup, 1) := by decide +kernel
theorem dX12_feed_107 : decode cX12_feed 107 = .ok (.getfield 260, 3) := by decide +kernel
theorem dX12_feed_110 : decode cX12_feed 110 = .ok (.bipush 20, 2) := by decide +kernel
theorem dX12_feed_112 : decode cX12_feed 112 = .ok (.iadd, 1) := by decide +kernel
theorem dX12_feed_113 : decode cX12_feed 113 = .ok (.putfield 260, 3) := by decide +kernel
theorem dX12_feed_116 : decode cX12_feed 116 = .ok (.aload_n 0, 1) := by decide +kernel
theorem dX12_feed_117 : decode cX12_feed 117 = .ok (.getfield 260, 3) := by decide +kernel
theorem dX12_feed_120 : decode cX12_feed 120 = .ok (.ireturn, 1) := by decide +kernel
theorem dX12_end_0 : decode cX12_end 0 = .ok (.iload_n 1, 1) := by decide +kernel
theorem dX12_end_1 : decode cX12_end 1 = .ok (.ifCond .lt 11, 3) := by decide +kernel
theorem dX12_end_4 : decode cX12_end 4 = .ok (.iload_n 1, 1) := by decide +kernel
theorem dX12_end_5 : decode cX12_end 5 = .ok (.aload_n 0, 1) := by decide +kernel
theorem dX12_end_6 : decode cX12_end 6 = .ok (.getfield 260, 3) := by decide +kernel
theorem dX12_end_9 : decode cX12_end 9 = .ok (.if_icmp .le 5, 3) := by decide +kernel
theorem dX12_end_12 : decode cX12_end 12 = .ok (.iconst (-1), 1) := by decide +kernel
theorem dX12_end_13 : decode cX12_end 13 = .ok (.ireturn, 1) := by decide +kernel
theorem dX12_end_14 : decode cX12_end 14 = .ok (.aload_n 0, 1) := by decide +kernel
theorem dX12_end_15 : decode cX12_end 15 = .ok (.iload_n 1, 1) := by decide +kernel
theorem dX12_end_16 : decode cX12_end 16 = .ok (.putfield 260, 3) := by decide +kernel
theorem dX12_end_19 : decode cX12_end 19 = .ok (.iload_n 1, 1) := by decide +kernel
theorem dX12_end_20 : decode cX12_end 20 = .ok (.ireturn, 1) := by decide +kernel
theorem dL_law_0 : decode cL_law 0 = .ok (.new 7, 3) := by decide +kernel
theorem dL_law_3 : decode cL_law 3 = .ok (.dup, 1) := by decide +kernel
theorem dL_law_4 : decode cL_law 4 = .ok (.invokespecial 9, 3) := by decide +kernel
theorem dL_law_7 : decode cL_law 7 = .ok (.astore_n 1, 1) := by decide +kernel
theorem dL_law_8 : decode cL_law 8 = .ok (.new 10, 3) := by decide +kernel
theorem dL_law_11 : decode cL_law 11 = .ok (.dup, 1) := by decide +kernel
theorem dL_law_12 : decode cL_law 12 = .ok (.invokespecial 12, 3) := by decide +kernel
theorem dL_law_15 : decode cL_law 15 = .ok (.astore_n 2, 1) := by decide +kernel
theorem dL_law_16 : decode cL_law 16 = .ok (.iconst 0, 1) := by decide +kernel
theorem dL_law_17 : decode cL_law 17 = .ok (.istore_n 3, 1) := by decide +kernel
theorem dL_law_18 : decode cL_law 18 = .ok (.iload_n 3, 1) := by decide +kernel
theorem dL_law_19 : decode cL_law 19 = .ok (.aload_n 0, 1) := by decide +kernel
theorem dL_law_20 : decode cL_law 20 = .ok (.arraylength, 1) := by decide +kernel
theorem dL_law_21 : decode cL_law 21 = .ok (.bipush 6, 2) := by decide +kernel
theorem dL_law_23 : decode cL_law 23 = .ok (.isub, 1) := by decide +kernel
theorem dL_law_24 : decode cL_law 24 = .ok (.if_icmp .gt 1461, 3) := by decide +kernel
theorem dL_law_27 : decode cL_law 27 = .ok (.aload_n 0, 1) := by decide +kernel
theorem dL_law_28 : decode cL_law 28 = .ok (.iload_n 3, 1) := by decide +kernel
theorem dL_law_29 : decode cL_law 29 = .ok (.iaload, 1) := by decide +kernel
theorem dL_law_30 : decode cL_law 30 = .ok (.bipush 63, 2) := by decide +kernel
theorem dL_law_32 : decode cL_law 32 = .ok (.iand, 1) := by decide +kernel
theorem dL_law_33 : decode cL_law 33 = .ok (.tableswitch 1446 0 32 #[147, 210, 233, 246, 259, 282, 325, 378, 431, 494, 557, 610, 643, 686, 739, 772, 805, 858, 891, 944, 967, 990, 1033, 1066, 1099, 1132, 1175, 1238, 1291, 1344, 1377, 1400, 1423], 147) := by decide +kernel
theorem dL_law_180 : decode cL_law 180 = .ok (.aload_n 1, 1) := by decide +kernel
theorem dL_law_181 : decode cL_law 181 = .ok (.aload_n 0, 1) := by decide +kernel
theorem dL_law_182 : decode cL_law 182 = .ok (.iload_n 3, 1) := by decide +kernel
theorem dL_law_183 : decode cL_law 183 = .ok (.iconst 1, 1) := by decide +kernel
theorem dL_law_184 : decode cL_law 184 = .ok (.iadd, 1) := by decide +kernel
theorem dL_law_185 : decode cL_law 185 = .ok (.iaload, 1) := by decide +kernel
theorem dL_law_186 : decode cL_law 186 = .ok (.aload_n 0, 1) := by decide +kernel
theorem dL_law_187 : decode cL_law 187 = .ok (.iload_n 3, 1) := by decide +kernel
theorem dL_law_188 : decode cL_law 188 = .ok (.iconst 2, 1) := by decide +kernel
theorem dL_law_189 : decode cL_law 189 = .ok (.iadd, 1) := by decide +kernel
theorem dL_law_190 : decode cL_law 190 = .ok (.iaload, 1) := by decide +kernel
theorem dL_law_191 : decode cL_law 191 = .ok (.aload_n 0, 1) := by decide +kernel
theorem dL_law_192 : decode cL_law 192 = .ok (.iload_n 3, 1) := by decide +kernel
theorem dL_law_193 : decode cL_law 193 = .ok (.iconst 3, 1) := by decide +kernel
theorem dL_law_194 : decode cL_law 194 = .ok (.iadd, 1) := by decide +kernel
theorem dL_law_195 : decode cL_law 195 = .ok (.iaload, 1) := by decide +kernel
theorem dL_law_196 : decode cL_law 196 = .ok (.aload_n 0, 1) := by decide +kernel
theorem dL_law_197 : decode cL_law 197 = .ok (.iload_n 3, 1) := by decide +kernel
theorem dL_law_198 : decode cL_law 198 = .ok (.iconst 4, 1) := by decide +kernel
theorem dL_law_199 : decode cL_law 199 = .ok (.iadd, 1) := by decide +kernel
theorem dL_law_200 : decode cL_law 200 = .ok (.iaload, 1) := by decide +kernel
theorem dL_law_201 : decode cL_law 201 = .ok (.aload_n 0, 1) := by decide +kernel
theorem dL_law_202 : decode cL_law 202 = .ok (.iload_n 3, 1) := by decide +kernel
theorem dL_law_203 : decode cL_law 203 = .ok (.iconst 5, 1) := by decide +kernel
theorem dL_law_204 : decode cL_law 204 = .ok (.iadd, 1) := by decide +kernel
theorem dL_law_205 : decode cL_law 205 = .ok (.iaload, 1) := by decide +kernel
theorem dL_law_206 : decode cL_law 206 = .ok (.invokevirtual 13, 3) := by decide +kernel
theorem dL_law_209 : decode cL_law 209 = .ok (.aload_n 2, 1) := by decide +kernel
theorem dL_law_210 : decode cL_law 210 = .ok (.aload_n 0, 1) := by decide +kernel
theorem dL_law_211 : decode cL_law 211 = .ok (.iload_n 3, 1) := by decide +kernel
theorem dL_law_212 : decode cL_law 212 = .ok (.iconst 1, 1) := by decide +kernel
theorem dL_law_213 : decode cL_law 213 = .ok (.iadd, 1) := by decide +kernel
theorem dL_law_214 : decode cL_law 214 = .ok (.iaload, 1) := by decide +kernel
theorem dL_law_215 : decode cL_law 215 = .ok (.aload_n 0, 1) := by decide +kernel
theorem dL_law_216 : decode cL_law 216 = .ok (.iload_n 3, 1) := by decide +kernel
theorem dL_law_217 : decode cL_law 217 = .ok (.iconst 2, 1) := by decide +kernel
theorem dL_law_218 : decode cL_law 218 = .ok (.iadd, 1) := by decide +kernel
theorem dL_law_219 : decode cL_law 219 = .ok (.iaload, 1) := by decide +kernel
theorem dL_law_220 : decode cL_law 220 = .ok (.aload_n 0, 1) := by decide +kernel
theorem dL_law_221 : decode cL_law 221 = .ok (.iload_n 3, 1) := by decide +kernel
theorem dL_law_222 : decode cL_law 222 = .ok (.iconst 3, 1) := by decide +kernel
theorem dL_law_223 : decode cL_law 223 = .ok (.iadd, 1) := by decide +kernel
theorem dL_law_224 : decode cL_law 224 = .ok (.iaload, 1) := by decide +kernel
theorem dL_law_225 : decode cL_law 225 = .ok (.aload_n 0, 1) := by decide +kernel
theorem dL_law_226 : decode cL_law 226 = .ok (.iload_n 3, 1) := by decide +kernel
theorem dL_law_227 : decode cL_law 227 = .ok (.iconst 4, 1) := by decide +kernel
theorem dL_law_228 : decode cL_law 228 = .ok (.iadd, 1) := by decide +kernel
theorem dL_law_229 : decode cL_law 229 = .ok (.iaload, 1) := by decide +kernel
theorem dL_law_230 : decode cL_law 230 = .ok (.aload_n 0, 1) := by decide +kernel
theorem dL_law_231 : decode cL_law 231 = .ok (.iload_n 3, 1) := by decide +kernel
theorem dL_law_232 : decode cL_law 232 = .ok (.iconst 5, 1) := by decide +kernel
theorem dL_law_233 : decode cL_law 233 = .ok (.iadd, 1) := by decide +kernel
theorem dL_law_234 : decode cL_law 234 = .ok (.iaload, 1) := by decide +kernel
theorem dL_law_235 : decode cL_law 235 = .ok (.invokevirtual 17, 3) := by decide +kernel
theorem dL_law_238 : decode cL_law 238 = .ok (.if_icmp .eq 1241, 3) := by decide +kernel
theorem dL_law_241 : decode cL_law 241 = .ok (.iconst 0, 1) := by decide +kernel
theorem dL_law_242 : decode cL_law 242 = .ok (.ireturn, 1) := by decide +kernel
theorem dL_law_243 : decode cL_law 243 = .ok (.aload_n 1, 1) := by decide +kernel
theorem dL_law_244 : decode cL_law 244 = .ok (.aload_n 0, 1) := by decide +kernel
theorem dL_law_245 : decode cL_law 245 = .ok (.iload_n 3, 1) := by decide +kernel
theorem dL_law_246 : decode cL_law 246 = .ok (.iconst 1, 1) := by decide +kernel
theorem dL_law_247 : decode cL_law 247 = .ok (.iadd, 1) := by decide +kernel
theorem dL_law_248 : decode cL_law 248 = .ok (.iaload, 1) := by decide +kernel
theorem dL_law_249 : decode cL_law 249 = .ok (.invokevirtual 18, 3) := by decide +kernel
theorem dL_law_252 : decode cL_law 252 = .ok (.aload_n 2, 1) := by decide +kernel
theorem dL_law_253 : decode cL_law 253 = .ok (.aload_n 0, 1) := by decide +kernel
theorem dL_law_254 : decode cL_law 254 = .ok (.iload_n 3, 1) := by decide +kernel
theorem dL_law_255 : decode cL_law 255 = .ok (.iconst 1, 1) := by decide +kernel
theorem dL_law_256 : decode cL_law 256 = .ok (.iadd, 1) := by decide +kernel
theorem dL_law_257 : decode cL_law 257 = .ok (.iaload, 1) := by decide +kernel
theorem dL_law_258 : decode cL_law 258 = .ok (.invokevirtual 22, 3) := by decide +kernel
theorem dL_law_261 : decode cL_law 261 = .ok (.if_icmp .eq 1218, 3) := by decide +kernel
theorem dL_law_264 : decode cL_law 264 = .ok (.iconst 0, 1) := by decide +kernel
theorem dL_law_265 : decode cL_law 265 = .ok (.ireturn, 1) := by decide +kernel
theorem dL_law_266 : decode cL_law 266 = .ok (.aload_n 1, 1) := by decide +kernel
theorem dL_law_267 : decode cL_law 267 = .ok (.invokevirtual 23, 3) := by decide +kernel
theorem dL_law_270 : decode cL_law 270 = .ok (.aload_n 2, 1) := by decide +kernel
theorem dL_law_271 : decode cL_law 271 = .ok (.invokevirtual 27, 3) := by decide +kernel
theorem dL_law_274 : decode cL_law 274 = .ok (.if_icmp .eq 1205, 3) := by decide +kernel
theorem dL_law_277 : decode cL_law 277 = .ok (.iconst 0, 1) := by decide +kernel
theorem dL_law_278 : decode cL_law 278 = .ok (.ireturn, 1) := by decide +kernel
theorem dL_law_279 : decode cL_law 279 = .ok (.aload_n 1, 1) := by decide +kernel
theorem dL_law_280 : decode cL_law 280 = .ok (.invokevirtual 28, 3) := by decide +kernel
theorem dL_law_283 : decode cL_law 283 = .ok (.aload_n 2, 1) := by decide +kernel
theorem dL_law_284 : decode cL_law 284 = .ok (.invokevirtual 31, 3) := by decide +kernel
theorem dL_law_287 : decode cL_law 287 = .ok (.if_icmp .eq 1192, 3) := by decide +kernel
theorem dL_law_290 : decode cL_law 290 = .ok (.iconst 0, 1) := by decide +kernel
theorem dL_law_291 : decode cL_law 291 = .ok (.ireturn, 1) := by decide +kernel
theorem dL_law_292 : decode cL_law 292 = .ok (.aload_n 1, 1) := by decide +kernel
theorem dL_law_293 : decode cL_law 293 = .ok (.aload_n 0, 1) := by decide +kernel
theorem dL_law_294 : decode cL_law 294 = .ok (.iload_n 3, 1) := by decide +kernel
theorem dL_law_295 : decode cL_law 295 = .ok (.iconst 1, 1) := by decide +kernel
theorem dL_law_296 : decode cL_law 296 = .ok (.iadd, 1) := by decide +kernel
theorem dL_law_297 : decode cL_law 297 = .ok (.iaload, 1) := by decide +kernel
theorem dL_law_298 : decode cL_law 298 = .ok (.invokevirtual 32, 3) := by decide +kernel
theorem dL_law_301 : decode cL_law 301 = .ok (.aload_n 2, 1) := by decide +kernel
theorem dL_law_302 : decode cL_law 302 = .ok (.aload_n 0, 1) := by decide +kernel
theorem dL_law_303 : decode cL_law 303 = .ok (.iload_n 3, 1) := by decide +kernel
theorem dL_law_304 : decode cL_law 304 = .ok (.iconst 1, 1) := by decide +kernel
theorem dL_law_305 : decode cL_law 305 = .ok (.iadd, 1) := by decide +kernel
theorem dL_law_306 : decode cL_law 306 = .ok (.iaload, 1) := by decide +kernel
theorem dL_law_307 : decode cL_law 307 = .ok (.invokevirtual 35, 3) := by decide +kernel
theorem dL_law_310 : decode cL_law 310 = .ok (.if_icmp .eq 1169, 3) := by decide +kernel
theorem dL_law_313 : decode cL_law 313 = .ok (.iconst 0, 1) := by decide +kernel
theorem dL_law_314 : decode cL_law 314 = .ok (.ireturn, 1) := by decide +kernel
theorem dL_law_315 : decode cL_law 315 = .ok (.aload_n 1, 1) := by decide +kernel
theorem dL_law_316 : decode cL_law 316 = .ok (.aload_n 0, 1) := by decide +kernel
theorem dL_law_317 : decode cL_law 317 = .ok (.iload_n 3, 1) := by decide +kernel
theorem dL_law_318 : decode cL_law 318 = .ok (.iconst 1, 1) := by decide +kernel
theorem dL_law_319 : decode cL_law 319 = .ok (.iadd, 1) := by decide +kernel
theorem dL_law_320 : decode cL_law 320 = .ok (.iaload, 1) := by decide +kernel
theorem dL_law_321 : decode cL_law 321 = .ok (.aload_n 0, 1) := by decide +kernel
theorem dL_law_322 : decode cL_law 322 = .ok (.iload_n 3, 1) := by decide +kernel
theorem dL_law_323 : decode cL_law 323 = .ok (.iconst 2, 1) := by decide +kernel
theorem dL_law_324 : decode cL_law 324 = .ok (.iadd, 1) := by decide +kernel
theorem dL_law_325 : decode cL_law 325 = .ok (.iaload, 1) := by decide +kernel
theorem dL_law_326 : decode cL_law 326 = .ok (.aload_n 0, 1) := by decide +kernel
theorem dL_law_327 : decode cL_law 327 = .ok (.iload_n 3, 1) := by decide +kernel
theorem dL_law_328 : decode cL_law 328 = .ok (.iconst 3, 1) := by decide +kernel
theorem dL_law_329 : decode cL_law 329 = .ok (.iadd, 1) := by decide +kernel
theorem dL_law_330 : decode cL_law 330 = .ok (.iaload, 1) := by decide +kernel
theorem dL_law_331 : decode cL_law 331 = .ok (.invokevirtual 36, 3) := by decide +kernel
theorem dL_law_334 : decode cL_law 334 = .ok (.aload_n 2, 1) := by decide +kernel
theorem dL_law_335 : decode cL_law 335 = .ok (.aload_n 0, 1) := by decide +kernel
theorem dL_law_336 : decode cL_law 336 = .ok (.iload_n 3, 1) := by decide +kernel
theorem dL_law_337 : decode cL_law 337 = .ok (.iconst 1, 1) := by decide +kernel
theorem dL_law_338 : decode cL_law 338 = .ok (.iadd, 1) := by decide +kernel
theorem dL_law_339 : decode cL_law 339 = .ok (.iaload, 1) := by decide +kernel
theorem dL_law_340 : decode cL_law 340 = .ok (.aload_n 0, 1) := by decide +kernel
theorem dL_law_341 : decode cL_law 341 = .ok (.iload_n 3, 1) := by decide +kernel
theorem dL_law_342 : decode cL_law 342 = .ok (.iconst 2, 1) := by decide +kernel
theorem dL_law_343 : decode cL_law 343 = .ok (.iadd, 1) := by decide +kernel
theorem dL_law_344 : decode cL_law 344 = .ok (.iaload, 1) := by decide +kernel
theorem dL_law_345 : decode cL_law 345 = .ok (.aload_n 0, 1) := by decide +kernel
theorem dL_law_346 : decode cL_law 346 = .ok (.iload_n 3, 1) := by decide +kernel
theorem dL_law_347 : decode cL_law 347 = .ok (.iconst 3, 1) := by decide +kernel
theorem dL_law_348 : decode cL_law 348 = .ok (.iadd, 1) := by decide +kernel
theorem dL_law_349 : decode cL_law 349 = .ok (.iaload, 1) := by decide +kernel
theorem dL_law_350 : decode cL_law 350 = .ok (.invokevirtual 40, 3) := by decide +kernel
theorem dL_law_353 : decode cL_law 353 = .ok (.if_icmp .eq 1126, 3) := by decide +kernel
theorem dL_law_356 : decode cL_law 356 = .ok (.iconst 0, 1) := by decide +kernel
theorem dL_law_357 : decode cL_law 357 = .ok (.ireturn, 1) := by decide +kernel
theorem dL_law_358 : decode cL_law 358 = .ok (.aload_n 1, 1) := by decide +kernel
theorem dL_law_359 : decode cL_law 359 = .ok (.aload_n 0, 1) := by decide +kernel
theorem dL_law_360 : decode cL_law 360 = .ok (.iload_n 3, 1) := by decide +kernel
theorem dL_law_361 : decode cL_law 361 = .ok (.iconst 1, 1) := by decide +kernel
theorem dL_law_362 : decode cL_law 362 = .ok (.iadd, 1) := by decide +kernel
theorem dL_law_363 : decode cL_law 363 = .ok (.iaload, 1) := by decide +kernel
theorem dL_law_364 : decode cL_law 364 = .ok (.aload_n 0, 1) := by decide +kernel
theorem dL_law_365 : decode cL_law 365 = .ok (.iload_n 3, 1) := by decide +kernel
theorem dL_law_366 : decode cL_law 366 = .ok (.iconst 2, 1) := by decide +kernel
theorem dL_law_367 : decode cL_law 367 = .ok (.iadd, 1) := by decide +kernel
theorem dL_law_368 : decode cL_law 368 = .ok (.iaload, 1) := by decide +kernel
theorem dL_law_369 : decode cL_law 369 = .ok (.aload_n 0, 1) := by decide +kernel
theorem dL_law_370 : decode cL_law 370 = .ok (.iload_n 3, 1) := by decide +kernel
theorem dL_law_371 : decode cL_law 371 = .ok (.iconst 3, 1) := by decide +kernel
theorem dL_law_372 : decode cL_law 372 = .ok (.iadd, 1) := by decide +kernel
theorem dL_law_373 : decode cL_law 373 = .ok (.iaload, 1) := by decide +kernel
theorem dL_law_374 : decode cL_law 374 = .ok (.aload_n 0, 1) := by decide +kernel
theorem dL_law_375 : decode cL_law 375 = .ok (.iload_n 3, 1) := by decide +kernel
theorem dL_law_376 : decode cL_law 376 = .ok (.iconst 4, 1) := by decide +kernel
theorem dL_law_377 : decode cL_law 377 = .ok (.iadd, 1) := by decide +kernel
theorem dL_law_378 : decode cL_law 378 = .ok (.iaload, 1) := by decide +kernel
theorem dL_law_379 : decode cL_law 379 = .ok (.invokevirtual 41, 3) := by decide +kernel
theorem dL_law_382 : decode cL_law 382 = .ok (.aload_n 2, 1) := by decide +kernel
theorem dL_law_383 : decode cL_law 383 = .ok (.aload_n 0, 1) := by decide +kernel
theorem dL_law_384 : decode cL_law 384 = .ok (.iload_n 3, 1) := by decide +kernel
theorem dL_law_385 : decode cL_law 385 = .ok (.iconst 1, 1) := by decide +kernel
theorem dL_law_386 : decode cL_law 386 = .ok (.iadd, 1) := by decide +kernel
theorem dL_law_387 : decode cL_law 387 = .ok (.iaload, 1) := by decide +kernel
theorem dL_law_388 : decode cL_law 388 = .ok (.aload_n 0, 1) := by decide +kernel
theorem dL_law_389 : decode cL_law 389 = .ok (.iload_n 3, 1) := by decide +kernel
theorem dL_law_390 : decode cL_law 390 = .ok (.iconst 2, 1) := by decide +kernel
theorem dL_law_391 : decode cL_law 391 = .ok (.iadd, 1) := by decide +kernel
theorem dL_law_392 : decode cL_law 392 = .ok (.iaload, 1) := by decide +kernel
theorem dL_law_393 : decode cL_law 393 = .ok (.aload_n 0, 1) := by decide +kernel
theorem dL_law_394 : decode cL_law 394 = .ok (.iload_n 3, 1) := by decide +kernel
theorem dL_law_395 : decode cL_law 395 = .ok (.iconst 3, 1) := by decide +kernel
theorem dL_law_396 : decode cL_law 396 = .ok (.iadd, 1) := by decide +kernel
theorem dL_law_397 : decode cL_law 397 = .ok (.iaload, 1) := by decide +kernel
theorem dL_law_398 : decode cL_law 398 = .ok (.aload_n 0, 1) := by decide +kernel
theorem dL_law_399 : decode cL_law 399 = .ok (.iload_n 3, 1) := by decide +kernel
theorem dL_law_400 : decode cL_law 400 = .ok (.iconst 4, 1) := by decide +kernel
theorem dL_law_401 : decode cL_law 401 = .ok (.iadd, 1) := by decide +kernel
theorem dL_law_402 : decode cL_law 402 = .ok (.iaload, 1) := by decide +kernel
theorem dL_law_403 : decode cL_law 403 = .ok (.invokevirtual 45, 3) := by decide +kernel
theorem dL_law_406 : decode cL_law 406 = .ok (.if_icmp .eq 1073, 3) := by decide +kernel
theorem dL_law_409 : decode cL_law 409 = .ok (.iconst 0, 1) := by decide +kernel
theorem dL_law_410 : decode cL_law 410 = .ok (.ireturn, 1) := by decide +kernel
theorem dL_law_411 : decode cL_law 411 = .ok (.aload_n 1, 1) := by decide +kernel
theorem dL_law_412 : decode cL_law 412 = .ok (.aload_n 0, 1) := by decide +kernel
theorem dL_law_413 : decode cL_law 413 = .ok (.iload_n 3, 1) := by decide +kernel
theorem dL_law_414 : decode cL_law 414 = .ok (.iconst 1, 1) := by decide +kernel
theorem dL_law_415 : decode cL_law 415 = .ok (.iadd, 1) := by decide +kernel
theorem dL_law_416 : decode cL_law 416 = .ok (.iaload, 1) := by decide +kernel
theorem dL_law_417 : decode cL_law 417 = .ok (.aload_n 0, 1) := by decide +kernel
theorem dL_law_418 : decode cL_law 418 = .ok (.iload_n 3, 1) := by decide +kernel
theorem dL_law_419 : decode cL_law 419 = .ok (.iconst 2, 1) := by decide +kernel
theorem dL_law_420 : decode cL_law 420 = .ok (.iadd, 1) := by decide +kernel
theorem dL_law_421 : decode cL_law 421 = .ok (.iaload, 1) := by decide +kernel
theorem dL_law_422 : decode cL_law 422 = .ok (.aload_n 0, 1) := by decide +kernel
theorem dL_law_423 : decode cL_law 423 = .ok (.iload_n 3, 1) := by decide +kernel
theorem dL_law_424 : decode cL_law 424 = .ok (.iconst 3, 1) := by decide +kernel
theorem dL_law_425 : decode cL_law 425 = .ok (.iadd, 1) := by decide +kernel
theorem dL_law_426 : decode cL_law 426 = .ok (.iaload, 1) := by decide +kernel
theorem dL_law_427 : decode cL_law 427 = .ok (.aload_n 0, 1) := by decide +kernel
theorem dL_law_428 : decode cL_law 428 = .ok (.iload_n 3, 1) := by decide +kernel
theorem dL_law_429 : decode cL_law 429 = .ok (.iconst 4, 1) := by decide +kernel
theorem dL_law_430 : decode cL_law 430 = .ok (.iadd, 1) := by decide +kernel
theorem dL_law_431 : decode cL_law 431 = .ok (.iaload, 1) := by decide +kernel
theorem dL_law_432 : decode cL_law 432 = .ok (.invokevirtual 46, 3) := by decide +kernel
theorem dL_law_435 : decode cL_law 435 = .ok (.aload_n 2, 1) := by decide +kernel
theorem dL_law_436 : decode cL_law 436 = .ok (.aload_n 0, 1) := by decide +kernel
theorem dL_law_437 : decode cL_law 437 = .ok (.iload_n 3, 1) := by decide +kernel
theorem dL_law_438 : decode cL_law 438 = .ok (.iconst 1, 1) := by decide +kernel
theorem dL_law_439 : decode cL_law 439 = .ok (.iadd, 1) := by decide +kernel
theorem dL_law_440 : decode cL_law 440 = .ok (.iaload, 1) := by decide +kernel
theorem dL_law_441 : decode cL_law 441 = .ok (.aload_n 0, 1) := by decide +kernel
theorem dL_law_442 : decode cL_law 442 = .ok (.iload_n 3, 1) := by decide +kernel
theorem dL_law_443 : decode cL_law 443 = .ok (.iconst 2, 1) := by decide +kernel
theorem dL_law_444 : decode cL_law 444 = .ok (.iadd, 1) := by decide +kernel
theorem dL_law_445 : decode cL_law 445 = .ok (.iaload, 1) := by decide +kernel
theorem dL_law_446 : decode cL_law 446 = .ok (.aload_n 0, 1) := by decide +kernel
theorem dL_law_447 : decode cL_law 447 = .ok (.iload_n 3, 1) := by decide +kernel
theorem dL_law_448 : decode cL_law 448 = .ok (.iconst 3, 1) := by decide +kernel
theorem dL_law_449 : decode cL_law 449 = .ok (.iadd, 1) := by decide +kernel
theorem dL_law_450 : decode cL_law 450 = .ok (.iaload, 1) := by decide +kernel
theorem dL_law_451 : decode cL_law 451 = .ok (.aload_n 0, 1) := by decide +kernel
theorem dL_law_452 : decode cL_law 452 = .ok (.iload_n 3, 1) := by decide +kernel
theorem dL_law_453 : decode cL_law 453 = .ok (.iconst 4, 1) := by decide +kernel
theorem dL_law_454 : decode cL_law 454 = .ok (.iadd, 1) := by decide +kernel
theorem dL_law_455 : decode cL_law 455 = .ok (.iaload, 1) := by decide +kernel
theorem dL_law_456 : decode cL_law 456 = .ok (.invokevirtual 49, 3) := by decide +kernel
theorem dL_law_459 : decode cL_law 459 = .ok (.if_icmp .eq 1020, 3) := by decide +kernel
theorem dL_law_462 : decode cL_law 462 = .ok (.iconst 0, 1) := by decide +kernel
theorem dL_law_463 : decode cL_law 463 = .ok (.ireturn, 1) := by decide +kernel
theorem dL_law_464 : decode cL_law 464 = .ok (.aload_n 1, 1) := by decide +kernel
theorem dL_law_465 : decode cL_law 465 = .ok (.aload_n 0, 1) := by decide +kernel
theorem dL_law_466 : decode cL_law 466 = .ok (.iload_n 3, 1) := by decide +kernel
theorem dL_law_467 : decode cL_law 467 = .ok (.iconst 1, 1) := by decide +kernel
theorem dL_law_468 : decode cL_law 468 = .ok (.iadd, 1) := by decide +kernel
theorem dL_law_469 : decode cL_law 469 = .ok (.iaload, 1) := by decide +kernel
theorem dL_law_470 : decode cL_law 470 = .ok (.aload_n 0, 1) := by decide +kernel
theorem dL_law_471 : decode cL_law 471 = .ok (.iload_n 3, 1) := by decide +kernel
theorem dL_law_472 : decode cL_law 472 = .ok (.iconst 2, 1) := by decide +kernel
theorem dL_law_473 : decode cL_law 473 = .ok (.iadd, 1) := by decide +kernel
theorem dL_law_474 : decode cL_law 474 = .ok (.iaload, 1) := by decide +kernel
theorem dL_law_475 : decode cL_law 475 = .ok (.aload_n 0, 1) := by decide +kernel
theorem dL_law_476 : decode cL_law 476 = .ok (.iload_n 3, 1) := by decide +kernel
theorem dL_law_477 : decode cL_law 477 = .ok (.iconst 3, 1) := by decide +kernel
theorem dL_law_478 : decode cL_law 478 = .ok (.iadd, 1) := by decide +kernel
theorem dL_law_479 : decode cL_law 479 = .ok (.iaload, 1) := by decide +kernel
theorem dL_law_480 : decode cL_law 480 = .ok (.aload_n 0, 1) := by decide +kernel
theorem dL_law_481 : decode cL_law 481 = .ok (.iload_n 3, 1) := by decide +kernel
theorem dL_law_482 : decode cL_law 482 = .ok (.iconst 4, 1) := by decide +kernel
theorem dL_law_483 : decode cL_law 483 = .ok (.iadd, 1) := by decide +kernel
theorem dL_law_484 : decode cL_law 484 = .ok (.iaload, 1) := by decide +kernel
theorem dL_law_485 : decode cL_law 485 = .ok (.aload_n 0, 1) := by decide +kernel
theorem dL_law_486 : decode cL_law 486 = .ok (.iload_n 3, 1) := by decide +kernel
theorem dL_law_487 : decode cL_law 487 = .ok (.iconst 5, 1) := by decide +kernel
theorem dL_law_488 : decode cL_law 488 = .ok (.iadd, 1) := by decide +kernel
theorem dL_law_489 : decode cL_law 489 = .ok (.iaload, 1) := by decide +kernel
theorem dL_law_490 : decode cL_law 490 = .ok (.invokevirtual 50, 3) := by decide +kernel
theorem dL_law_493 : decode cL_law 493 = .ok (.aload_n 2, 1) := by decide +kernel
theorem dL_law_494 : decode cL_law 494 = .ok (.aload_n 0, 1) := by decide +kernel
theorem dL_law_495 : decode cL_law 495 = .ok (.iload_n 3, 1) := by decide +kernel
theorem dL_law_496 : decode cL_law 496 = .ok (.iconst 1, 1) := by decide +kernel
theorem dL_law_497 : decode cL_law 497 = .ok (.iadd, 1) := by decide +kernel
theorem dL_law_498 : decode cL_law 498 = .ok (.iaload, 1) := by decide +kernel
theorem dL_law_499 : decode cL_law 499 = .ok (.aload_n 0, 1) := by decide +kernel
theorem dL_law_500 : decode cL_law 500 = .ok (.iload_n 3, 1) := by decide +kernel
theorem dL_law_501 : decode cL_law 501 = .ok (.iconst 2, 1) := by decide +kernel
theorem dL_law_502 : decode cL_law 502 = .ok (.iadd, 1) := by decide +kernel
theorem dL_law_503 : decode cL_law 503 = .ok (.iaload, 1) := by decide +kernel
theorem dL_law_504 : decode cL_law 504 = .ok (.aload_n 0, 1) := by decide +kernel
theorem dL_law_505 : decode cL_law 505 = .ok (.iload_n 3, 1) := by decide +kernel
theorem dL_law_506 : decode cL_law 506 = .ok (.iconst 3, 1) := by decide +kernel
theorem dL_law_507 : decode cL_law 507 = .ok (.iadd, 1) := by decide +kernel
theorem dL_law_508 : decode cL_law 508 = .ok (.iaload, 1) := by decide +kernel
theorem dL_law_509 : decode cL_law 509 = .ok (.aload_n 0, 1) := by decide +kernel
theorem dL_law_510 : decode cL_law 510 = .ok (.iload_n 3, 1) := by decide +kernel
theorem dL_law_511 : decode cL_law 511 = .ok (.iconst 4, 1) := by decide +kernel
theorem dL_law_512 : decode cL_law 512 = .ok (.iadd, 1) := by decide +kernel
theorem dL_law_513 : decode cL_law 513 = .ok (.iaload, 1) := by decide +kernel
theorem dL_law_514 : decode cL_law 514 = .ok (.aload_n 0, 1) := by decide +kernel
theorem dL_law_515 : decode cL_law 515 = .ok (.iload_n 3, 1) := by decide +kernel
theorem dL_law_516 : decode cL_law 516 = .ok (.iconst 5, 1) := by decide +kernel
theorem dL_law_517 : decode cL_law 517 = .ok (.iadd, 1) := by decide +kernel
theorem dL_law_518 : decode cL_law 518 = .ok (.iaload, 1) := by decide +kernel
theorem dL_law_519 : decode cL_law 519 = .ok (.invokevirtual 53, 3) := by decide +kernel
theorem dL_law_522 : decode cL_law 522 = .ok (.if_icmp .eq 957, 3) := by decide +kernel
theorem dL_law_525 : decode cL_law 525 = .ok (.iconst 0, 1) := by decide +kernel
theorem dL_law_526 : decode cL_law 526 = .ok (.ireturn, 1) := by decide +kernel
theorem dL_law_527 : decode cL_law 527 = .ok (.aload_n 1, 1) := by decide +kernel
theorem dL_law_528 : decode cL_law 528 = .ok (.aload_n 0, 1) := by decide +kernel
theorem dL_law_529 : decode cL_law 529 = .ok (.iload_n 3, 1) := by decide +kernel
theorem dL_law_530 : decode cL_law 530 = .ok (.iconst 1, 1) := by decide +kernel
theorem dL_law_531 : decode cL_law 531 = .ok (.iadd, 1) := by decide +kernel
theorem dL_law_532 : decode cL_law 532 = .ok (.iaload, 1) := by decide +kernel
theorem dL_law_533 : decode cL_law 533 = .ok (.aload_n 0, 1) := by decide +kernel
theorem dL_law_534 : decode cL_law 534 = .ok (.iload_n 3, 1) := by decide +kernel
theorem dL_law_535 : decode cL_law 535 = .ok (.iconst 2, 1) := by decide +kernel
theorem dL_law_536 : decode cL_law 536 = .ok (.iadd, 1) := by decide +kernel
theorem dL_law_537 : decode cL_law 537 = .ok (.iaload, 1) := by decide +kernel
theorem dL_law_538 : decode cL_law 538 = .ok (.aload_n 0, 1) := by decide +kernel
theorem dL_law_539 : decode cL_law 539 = .ok (.iload_n 3, 1) := by decide +kernel
theorem dL_law_540 : decode cL_law 540 = .ok (.iconst 3, 1) := by decide +kernel
theorem dL_law_541 : decode cL_law 541 = .ok (.iadd, 1) := by decide +kernel
theorem dL_law_542 : decode cL_law 542 = .ok (.iaload, 1) := by decide +kernel
theorem dL_law_543 : decode cL_law 543 = .ok (.aload_n 0, 1) := by decide +kernel
theorem dL_law_544 : decode cL_law 544 = .ok (.iload_n 3, 1) := by decide +kernel
theorem dL_law_545 : decode cL_law 545 = .ok (.iconst 4, 1) := by decide +kernel
theorem dL_law_546 : decode cL_law 546 = .ok (.iadd, 1) := by decide +kernel
theorem dL_law_547 : decode cL_law 547 = .ok (.iaload, 1) := by decide +kernel
theorem dL_law_548 : decode cL_law 548 = .ok (.aload_n 0, 1) := by decide +kernel
theorem dL_law_549 : decode cL_law 549 = .ok (.iload_n 3, 1) := by decide +kernel
theorem dL_law_550 : decode cL_law 550 = .ok (.iconst 5, 1) := by decide +kernel
theorem dL_law_551 : decode cL_law 551 = .ok (.iadd, 1) := by decide +kernel
theorem dL_law_552 : decode cL_law 552 = .ok (.iaload, 1) := by decide +kernel
theorem dL_law_553 : decode cL_law 553 = .ok (.invokevirtual 54, 3) := by decide +kernel
theorem dL_law_556 : decode cL_law 556 = .ok (.aload_n 2, 1) := by decide +kernel
theorem dL_law_557 : decode cL_law 557 = .ok (.aload_n 0, 1) := by decide +kernel
theorem dL_law_558 : decode cL_law 558 = .ok (.iload_n 3, 1) := by decide +kernel
theorem dL_law_559 : decode cL_law 559 = .ok (.iconst 1, 1) := by decide +kernel
theorem dL_law_560 : decode cL_law 560 = .ok (.iadd, 1) := by decide +kernel
theorem dL_law_561 : decode cL_law 561 = .ok (.iaload, 1) := by decide +kernel
theorem dL_law_562 : decode cL_law 562 = .ok (.aload_n 0, 1) := by decide +kernel
theorem dL_law_563 : decode cL_law 563 = .ok (.iload_n 3, 1) := by decide +kernel
theorem dL_law_564 : decode cL_law 564 = .ok (.iconst 2, 1) := by decide +kernel
theorem dL_law_565 : decode cL_law 565 = .ok (.iadd, 1) := by decide +kernel
theorem dL_law_566 : decode cL_law 566 = .ok (.iaload, 1) := by decide +kernel
theorem dL_law_567 : decode cL_law 567 = .ok (.aload_n 0, 1) := by decide +kernel
theorem dL_law_568 : decode cL_law 568 = .ok (.iload_n 3, 1) := by decide +kernel
theorem dL_law_569 : decode cL_law 569 = .ok (.iconst 3, 1) := by decide +kernel
theorem dL_law_570 : decode cL_law 570 = .ok (.iadd, 1) := by decide +kernel
theorem dL_law_571 : decode cL_law 571 = .ok (.iaload, 1) := by decide +kernel
theorem dL_law_572 : decode cL_law 572 = .ok (.aload_n 0, 1) := by decide +kernel
theorem dL_law_573 : decode cL_law 573 = .ok (.iload_n 3, 1) := by decide +kernel
theorem dL_law_574 : decode cL_law 574 = .ok (.iconst 4, 1) := by decide +kernel
theorem dL_law_575 : decode cL_law 575 = .ok (.iadd, 1) := by decide +kernel
theorem dL_law_576 : decode cL_law 576 = .ok (.iaload, 1) := by decide +kernel
theorem dL_law_577 : decode cL_law 577 = .ok (.aload_n 0, 1) := by decide +kernel
theorem dL_law_578 : decode cL_law 578 = .ok (.iload_n 3, 1) := by decide +kernel
theorem dL_law_579 : decode cL_law 579 = .ok (.iconst 5, 1) := by decide +kernel
theorem dL_law_580 : decode cL_law 580 = .ok (.iadd, 1) := by decide +kernel
theorem dL_law_581 : decode cL_law 581 = .ok (.iaload, 1) := by decide +kernel
theorem dL_law_582 : decode cL_law 582 = .ok (.invokevirtual 57, 3) := by decide +kernel
theorem dL_law_585 : decode cL_law 585 = .ok (.if_icmp .eq 894, 3) := by decide +kernel
theorem dL_law_588 : decode cL_law 588 = .ok (.iconst 0, 1) := by decide +kernel
theorem dL_law_589 : decode cL_law 589 = .ok (.ireturn, 1) := by decide +kernel
theorem dL_law_590 : decode cL_law 590 = .ok (.aload_n 1, 1) := by decide +kernel
theorem dL_law_591 : decode cL_law 591 = .ok (.aload_n 0, 1) := by decide +kernel
theorem dL_law_592 : decode cL_law 592 = .ok (.iload_n 3, 1) := by decide +kernel
theorem dL_law_593 : decode cL_law 593 = .ok (.iconst 1, 1) := by decide +kernel
theorem dL_law_594 : decode cL_law 594 = .ok (.iadd, 1) := by decide +kernel
theorem dL_law_595 : decode cL_law 595 = .ok (.iaload, 1) := by decide +kernel
theorem dL_law_596 : decode cL_law 596 = .ok (.aload_n 0, 1) := by decide +kernel
theorem dL_law_597 : decode cL_law 597 = .ok (.iload_n 3, 1) := by decide +kernel
theorem dL_law_598 : decode cL_law 598 = .ok (.iconst 2, 1) := by decide +kernel
theorem dL_law_599 : decode cL_law 599 = .ok (.iadd, 1) := by decide +kernel
theorem dL_law_600 : decode cL_law 600 = .ok (.iaload, 1) := by decide +kernel
theorem dL_law_601 : decode cL_law 601 = .ok (.aload_n 0, 1) := by decide +kernel
theorem dL_law_602 : decode cL_law 602 = .ok (.iload_n 3, 1) := by decide +kernel
theorem dL_law_603 : decode cL_law 603 = .ok (.iconst 3, 1) := by decide +kernel
theorem dL_law_604 : decode cL_law 604 = .ok (.iadd, 1) := by decide +kernel
theorem dL_law_605 : decode cL_law 605 = .ok (.iaload, 1) := by decide +kernel
theorem dL_law_606 : decode cL_law 606 = .ok (.aload_n 0, 1) := by decide +kernel
theorem dL_law_607 : decode cL_law 607 = .ok (.iload_n 3, 1) := by decide +kernel
theorem dL_law_608 : decode cL_law 608 = .ok (.iconst 4, 1) := by decide +kernel
theorem dL_law_609 : decode cL_law 609 = .ok (.iadd, 1) := by decide +kernel
theorem dL_law_610 : decode cL_law 610 = .ok (.iaload, 1) := by decide +kernel
theorem dL_law_611 : decode cL_law 611 = .ok (.invokevirtual 58, 3) := by decide +kernel
theorem dL_law_614 : decode cL_law 614 = .ok (.aload_n 2, 1) := by decide +kernel
theorem dL_law_615 : decode cL_law 615 = .ok (.aload_n 0, 1) := by decide +kernel
theorem dL_law_616 : decode cL_law 616 = .ok (.iload_n 3, 1) := by decide +kernel
theorem dL_law_617 : decode cL_law 617 = .ok (.iconst 1, 1) := by decide +kernel
theorem dL_law_618 : decode cL_law 618 = .ok (.iadd, 1) := by decide +kernel
theorem dL_law_619 : decode cL_law 619 = .ok (.iaload, 1) := by decide +kernel
theorem dL_law_620 : decode cL_law 620 = .ok (.aload_n 0, 1) := by decide +kernel
theorem dL_law_621 : decode cL_law 621 = .ok (.iload_n 3, 1) := by decide +kernel
theorem dL_law_622 : decode cL_law 622 = .ok (.iconst 2, 1) := by decide +kernel
theorem dL_law_623 : decode cL_law 623 = .ok (.iadd, 1) := by decide +kernel
theorem dL_law_624 : decode cL_law 624 = .ok (.iaload, 1) := by decide +kernel
theorem dL_law_625 : decode cL_law 625 = .ok (.aload_n 0, 1) := by decide +kernel
theorem dL_law_626 : decode cL_law 626 = .ok (.iload_n 3, 1) := by decide +kernel
theorem dL_law_627 : decode cL_law 627 = .ok (.iconst 3, 1) := by decide +kernel
theorem dL_law_628 : decode cL_law 628 = .ok (.iadd, 1) := by decide +kernel
theorem dL_law_629 : decode cL_law 629 = .ok (.iaload, 1) := by decide +kernel
theorem dL_law_630 : decode cL_law 630 = .ok (.aload_n 0, 1) := by decide +kernel
theorem dL_law_631 : decode cL_law 631 = .ok (.iload_n 3, 1) := by decide +kernel
theorem dL_law_632 : decode cL_law 632 = .ok (.iconst 4, 1) := by decide +kernel
theorem dL_law_633 : decode cL_law 633 = .ok (.iadd, 1) := by decide +kernel
theorem dL_law_634 : decode cL_law 634 = .ok (.iaload, 1) := by decide +kernel
theorem dL_law_635 : decode cL_law 635 = .ok (.invokevirtual 61, 3) := by decide +kernel
theorem dL_law_638 : decode cL_law 638 = .ok (.if_icmp .eq 841, 3) := by decide +kernel
theorem dL_law_641 : decode cL_law 641 = .ok (.iconst 0, 1) := by decide +kernel
theorem dL_law_642 : decode cL_law 642 = .ok (.ireturn, 1) := by decide +kernel
theorem dL_law_643 : decode cL_law 643 = .ok (.aload_n 1, 1) := by decide +kernel
theorem dL_law_644 : decode cL_law 644 = .ok (.aload_n 0, 1) := by decide +kernel
theorem dL_law_645 : decode cL_law 645 = .ok (.iload_n 3, 1) := by decide +kernel
theorem dL_law_646 : decode cL_law 646 = .ok (.iconst 1, 1) := by decide +kernel
theorem dL_law_647 : decode cL_law 647 = .ok (.iadd, 1) := by decide +kernel
theorem dL_law_648 : decode cL_law 648 = .ok (.iaload, 1) := by decide +kernel
theorem dL_law_649 : decode cL_law 649 = .ok (.aload_n 0, 1) := by decide +kernel
theorem dL_law_650 : decode cL_law 650 = .ok (.iload_n 3, 1) := by decide +kernel
theorem dL_law_651 : decode cL_law 651 = .ok (.iconst 2, 1) := by decide +kernel
theorem dL_law_652 : decode cL_law 652 = .ok (.iadd, 1) := by decide +kernel
theorem dL_law_653 : decode cL_law 653 = .ok (.iaload, 1) := by decide +kernel
theorem dL_law_654 : decode cL_law 654 = .ok (.invokevirtual 62, 3) := by decide +kernel
theorem dL_law_657 : decode cL_law 657 = .ok (.aload_n 2, 1) := by decide +kernel
theorem dL_law_658 : decode cL_law 658 = .ok (.aload_n 0, 1) := by decide +kernel
theorem dL_law_659 : decode cL_law 659 = .ok (.iload_n 3, 1) := by decide +kernel
theorem dL_law_660 : decode cL_law 660 = .ok (.iconst 1, 1) := by decide +kernel
theorem dL_law_661 : decode cL_law 661 = .ok (.iadd, 1) := by decide +kernel
theorem dL_law_662 : decode cL_law 662 = .ok (.iaload, 1) := by decide +kernel
theorem dL_law_663 : decode cL_law 663 = .ok (.aload_n 0, 1) := by decide +kernel
theorem dL_law_664 : decode cL_law 664 = .ok (.iload_n 3, 1) := by decide +kernel
theorem dL_law_665 : decode cL_law 665 = .ok (.iconst 2, 1) := by decide +kernel
theorem dL_law_666 : decode cL_law 666 = .ok (.iadd, 1) := by decide +kernel
theorem dL_law_667 : decode cL_law 667 = .ok (.iaload, 1) := by decide +kernel
theorem dL_law_668 : decode cL_law 668 = .ok (.invokevirtual 66, 3) := by decide +kernel
theorem dL_law_671 : decode cL_law 671 = .ok (.if_icmp .eq 808, 3) := by decide +kernel
theorem dL_law_674 : decode cL_law 674 = .ok (.iconst 0, 1) := by decide +kernel
theorem dL_law_675 : decode cL_law 675 = .ok (.ireturn, 1) := by decide +kernel
theorem dL_law_676 : decode cL_law 676 = .ok (.aload_n 1, 1) := by decide +kernel
theorem dL_law_677 : decode cL_law 677 = .ok (.aload_n 0, 1) := by decide +kernel
theorem dL_law_678 : decode cL_law 678 = .ok (.iload_n 3, 1) := by decide +kernel
theorem dL_law_679 : decode cL_law 679 = .ok (.iconst 1, 1) := by decide +kernel
theorem dL_law_680 : decode cL_law 680 = .ok (.iadd, 1) := by decide +kernel
theorem dL_law_681 : decode cL_law 681 = .ok (.iaload, 1) := by decide +kernel
theorem dL_law_682 : decode cL_law 682 = .ok (.aload_n 0, 1) := by decide +kernel
theorem dL_law_683 : decode cL_law 683 = .ok (.iload_n 3, 1) := by decide +kernel
theorem dL_law_684 : decode cL_law 684 = .ok (.iconst 2, 1) := by decide +kernel
theorem dL_law_685 : decode cL_law 685 = .ok (.iadd, 1) := by decide +kernel
theorem dL_law_686 : decode cL_law 686 = .ok (.iaload, 1) := by decide +kernel
theorem dL_law_687 : decode cL_law 687 = .ok (.aload_n 0, 1) := by decide +kernel
theorem dL_law_688 : decode cL_law 688 = .ok (.iload_n 3, 1) := by decide +kernel
theorem dL_law_689 : decode cL_law 689 = .ok (.iconst 3, 1) := by decide +kernel
theorem dL_law_690 : decode cL_law 690 = .ok (.iadd, 1) := by decide +kernel
theorem dL_law_691 : decode cL_law 691 = .ok (.iaload, 1) := by decide +kernel
theorem dL_law_692 : decode cL_law 692 = .ok (.invokevirtual 67, 3) := by decide +kernel
theorem dL_law_695 : decode cL_law 695 = .ok (.aload_n 2, 1) := by decide +kernel
theorem dL_law_696 : decode cL_law 696 = .ok (.aload_n 0, 1) := by decide +kernel
theorem dL_law_697 : decode cL_law 697 = .ok (.iload_n 3, 1) := by decide +kernel
theorem dL_law_698 : decode cL_law 698 = .ok (.iconst 1, 1) := by decide +kernel
theorem dL_law_699 : decode cL_law 699 = .ok (.iadd, 1) := by decide +kernel
theorem dL_law_700 : decode cL_law 700 = .ok (.iaload, 1) := by decide +kernel
theorem dL_law_701 : decode cL_law 701 = .ok (.aload_n 0, 1) := by decide +kernel
theorem dL_law_702 : decode cL_law 702 = .ok (.iload_n 3, 1) := by decide +kernel
theorem dL_law_703 : decode cL_law 703 = .ok (.iconst 2, 1) := by decide +kernel
theorem dL_law_704 : decode cL_law 704 = .ok (.iadd, 1) := by decide +kernel
theorem dL_law_705 : decode cL_law 705 = .ok (.iaload, 1) := by decide +kernel
theorem dL_law_706 : decode cL_law 706 = .ok (.aload_n 0, 1) := by decide +kernel
theorem dL_law_707 : decode cL_law 707 = .ok (.iload_n 3, 1) := by decide +kernel
theorem dL_law_708 : decode cL_law 708 = .ok (.iconst 3, 1) := by decide +kernel
theorem dL_law_709 : decode cL_law 709 = .ok (.iadd, 1) := by decide +kernel
theorem dL_law_710 : decode cL_law 710 = .ok (.iaload, 1) := by decide +kernel
theorem dL_law_711 : decode cL_law 711 = .ok (.invokevirtual 70, 3) := by decide +kernel
theorem dL_law_714 : decode cL_law 714 = .ok (.if_icmp .eq 765, 3) := by decide +kernel
theorem dL_law_717 : decode cL_law 717 = .ok (.iconst 0, 1) := by decide +kernel
theorem dL_law_718 : decode cL_law 718 = .ok (.ireturn, 1) := by decide +kernel
theorem dL_law_719 : decode cL_law 719 = .ok (.aload_n 1, 1) := by decide +kernel
theorem dL_law_720 : decode cL_law 720 = .ok (.aload_n 0, 1) := by decide +kernel
theorem dL_law_721 : decode cL_law 721 = .ok (.iload_n 3, 1) := by decide +kernel
theorem dL_law_722 : decode cL_law 722 = .ok (.iconst 1, 1) := by decide +kernel
theorem dL_law_723 : decode cL_law 723 = .ok (.iadd, 1) := by decide +kernel
theorem dL_law_724 : decode cL_law 724 = .ok (.iaload, 1) := by decide +kernel
theorem dL_law_725 : decode cL_law 725 = .ok (.aload_n 0, 1) := by decide +kernel
theorem dL_law_726 : decode cL_law 726 = .ok (.iload_n 3, 1) := by decide +kernel
theorem dL_law_727 : decode cL_law 727 = .ok (.iconst 2, 1) := by decide +kernel
theorem dL_law_728 : decode cL_law 728 = .ok (.iadd, 1) := by decide +kernel
theorem dL_law_729 : decode cL_law 729 = .ok (.iaload, 1) := by decide +kernel
theorem dL_law_730 : decode cL_law 730 = .ok (.aload_n 0, 1) := by decide +kernel
theorem dL_law_731 : decode cL_law 731 = .ok (.iload_n 3, 1) := by decide +kernel
theorem dL_law_732 : decode cL_law 732 = .ok (.iconst 3, 1) := by decide +kernel
theorem dL_law_733 : decode cL_law 733 = .ok (.iadd, 1) := by decide +kernel
theorem dL_law_734 : decode cL_law 734 = .ok (.iaload, 1) := by decide +kernel
theorem dL_law_735 : decode cL_law 735 = .ok (.aload_n 0, 1) := by decide +kernel
theorem dL_law_736 : decode cL_law 736 = .ok (.iload_n 3, 1) := by decide +kernel
theorem dL_law_737 : decode cL_law 737 = .ok (.iconst 4, 1) := by decide +kernel
theorem dL_law_738 : decode cL_law 738 = .ok (.iadd, 1) := by decide +kernel
theorem dL_law_739 : decode cL_law 739 = .ok (.iaload, 1) := by decide +kernel
theorem dL_law_740 : decode cL_law 740 = .ok (.invokevirtual 71, 3) := by decide +kernel
theorem dL_law_743 : decode cL_law 743 = .ok (.aload_n 2, 1) := by decide +kernel
theorem dL_law_744 : decode cL_law 744 = .ok (.aload_n 0, 1) := by decide +kernel
theorem dL_law_745 : decode cL_law 745 = .ok (.iload_n 3, 1) := by decide +kernel
theorem dL_law_746 : decode cL_law 746 = .ok (.iconst 1, 1) := by decide +kernel
theorem dL_law_747 : decode cL_law 747 = .ok (.iadd, 1) := by decide +kernel
theorem dL_law_748 : decode cL_law 748 = .ok (.iaload, 1) := by decide +kernel
theorem dL_law_749 : decode cL_law 749 = .ok (.aload_n 0, 1) := by decide +kernel
theorem dL_law_750 : decode cL_law 750 = .ok (.iload_n 3, 1) := by decide +kernel
theorem dL_law_751 : decode cL_law 751 = .ok (.iconst 2, 1) := by decide +kernel
theorem dL_law_752 : decode cL_law 752 = .ok (.iadd, 1) := by decide +kernel
theorem dL_law_753 : decode cL_law 753 = .ok (.iaload, 1) := by decide +kernel
theorem dL_law_754 : decode cL_law 754 = .ok (.aload_n 0, 1) := by decide +kernel
theorem dL_law_755 : decode cL_law 755 = .ok (.iload_n 3, 1) := by decide +kernel
theorem dL_law_756 : decode cL_law 756 = .ok (.iconst 3, 1) := by decide +kernel
theorem dL_law_757 : decode cL_law 757 = .ok (.iadd, 1) := by decide +kernel
theorem dL_law_758 : decode cL_law 758 = .ok (.iaload, 1) := by decide +kernel
theorem dL_law_759 : decode cL_law 759 = .ok (.aload_n 0, 1) := by decide +kernel
theorem dL_law_760 : decode cL_law 760 = .ok (.iload_n 3, 1) := by decide +kernel
theorem dL_law_761 : decode cL_law 761 = .ok (.iconst 4, 1) := by decide +kernel
theorem dL_law_762 : decode cL_law 762 = .ok (.iadd, 1) := by decide +kernel
theorem dL_law_763 : decode cL_law 763 = .ok (.iaload, 1) := by decide +kernel
theorem dL_law_764 : decode cL_law 764 = .ok (.invokevirtual 74, 3) := by decide +kernel
theorem dL_law_767 : decode cL_law 767 = .ok (.if_icmp .eq 712, 3) := by decide +kernel
theorem dL_law_770 : decode cL_law 770 = .ok (.iconst 0, 1) := by decide +kernel
theorem dL_law_771 : decode cL_law 771 = .ok (.ireturn, 1) := by decide +kernel
theorem dL_law_772 : decode cL_law 772 = .ok (.aload_n 1, 1) := by decide +kernel
theorem dL_law_773 : decode cL_law 773 = .ok (.aload_n 0, 1) := by decide +kernel
theorem dL_law_774 : decode cL_law 774 = .ok (.iload_n 3, 1) := by decide +kernel
theorem dL_law_775 : decode cL_law 775 = .ok (.iconst 1, 1) := by decide +kernel
theorem dL_law_776 : decode cL_law 776 = .ok (.iadd, 1) := by decide +kernel
theorem dL_law_777 : decode cL_law 777 = .ok (.iaload, 1) := by decide +kernel
theorem dL_law_778 : decode cL_law 778 = .ok (.aload_n 0, 1) := by decide +kernel
theorem dL_law_779 : decode cL_law 779 = .ok (.iload_n 3, 1) := by decide +kernel
theorem dL_law_780 : decode cL_law 780 = .ok (.iconst 2, 1) := by decide +kernel
theorem dL_law_781 : decode cL_law 781 = .ok (.iadd, 1) := by decide +kernel
theorem dL_law_782 : decode cL_law 782 = .ok (.iaload, 1) := by decide +kernel
theorem dL_law_783 : decode cL_law 783 = .ok (.invokevirtual 75, 3) := by decide +kernel
theorem dL_law_786 : decode cL_law 786 = .ok (.aload_n 2, 1) := by decide +kernel
theorem dL_law_787 : decode cL_law 787 = .ok (.aload_n 0, 1) := by decide +kernel
theorem dL_law_788 : decode cL_law 788 = .ok (.iload_n 3, 1) := by decide +kernel
theorem dL_law_789 : decode cL_law 789 = .ok (.iconst 1, 1) := by decide +kernel
theorem dL_law_790 : decode cL_law 790 = .ok (.iadd, 1) := by decide +kernel
theorem dL_law_791 : decode cL_law 791 = .ok (.iaload, 1) := by decide +kernel
theorem dL_law_792 : decode cL_law 792 = .ok (.aload_n 0, 1) := by decide +kernel
theorem dL_law_793 : decode cL_law 793 = .ok (.iload_n 3, 1) := by decide +kernel
theorem dL_law_794 : decode cL_law 794 = .ok (.iconst 2, 1) := by decide +kernel
theorem dL_law_795 : decode cL_law 795 = .ok (.iadd, 1) := by decide +kernel
theorem dL_law_796 : decode cL_law 796 = .ok (.iaload, 1) := by decide +kernel
theorem dL_law_797 : decode cL_law 797 = .ok (.invokevirtual 78, 3) := by decide +kernel
theorem dL_law_800 : decode cL_law 800 = .ok (.if_icmp .eq 679, 3) := by decide +kernel
theorem dL_law_803 : decode cL_law 803 = .ok (.iconst 0, 1) := by decide +kernel
theorem dL_law_804 : decode cL_law 804 = .ok (.ireturn, 1) := by decide +kernel
theorem dL_law_805 : decode cL_law 805 = .ok (.aload_n 1, 1) := by decide +kernel
theorem dL_law_806 : decode cL_law 806 = .ok (.aload_n 0, 1) := by decide +kernel
theorem dL_law_807 : decode cL_law 807 = .ok (.iload_n 3, 1) := by decide +kernel
theorem dL_law_808 : decode cL_law 808 = .ok (.iconst 1, 1) := by decide +kernel
theorem dL_law_809 : decode cL_law 809 = .ok (.iadd, 1) := by decide +kernel
theorem dL_law_810 : decode cL_law 810 = .ok (.iaload, 1) := by decide +kernel
theorem dL_law_811 : decode cL_law 811 = .ok (.aload_n 0, 1) := by decide +kernel
theorem dL_law_812 : decode cL_law 812 = .ok (.iload_n 3, 1) := by decide +kernel
theorem dL_law_813 : decode cL_law 813 = .ok (.iconst 2, 1) := by decide +kernel
theorem dL_law_814 : decode cL_law 814 = .ok (.iadd, 1) := by decide +kernel
theorem dL_law_815 : decode cL_law 815 = .ok (.iaload, 1) := by decide +kernel
theorem dL_law_816 : decode cL_law 816 = .ok (.invokevirtual 79, 3) := by decide +kernel
theorem dL_law_819 : decode cL_law 819 = .ok (.aload_n 2, 1) := by decide +kernel
theorem dL_law_820 : decode cL_law 820 = .ok (.aload_n 0, 1) := by decide +kernel
theorem dL_law_821 : decode cL_law 821 = .ok (.iload_n 3, 1) := by decide +kernel
theorem dL_law_822 : decode cL_law 822 = .ok (.iconst 1, 1) := by decide +kernel
theorem dL_law_823 : decode cL_law 823 = .ok (.iadd, 1) := by decide +kernel
theorem dL_law_824 : decode cL_law 824 = .ok (.iaload, 1) := by decide +kernel
theorem dL_law_825 : decode cL_law 825 = .ok (.aload_n 0, 1) := by decide +kernel
theorem dL_law_826 : decode cL_law 826 = .ok (.iload_n 3, 1) := by decide +kernel
theorem dL_law_827 : decode cL_law 827 = .ok (.iconst 2, 1) := by decide +kernel
theorem dL_law_828 : decode cL_law 828 = .ok (.iadd, 1) := by decide +kernel
theorem dL_law_829 : decode cL_law 829 = .ok (.iaload, 1) := by decide +kernel
theorem dL_law_830 : decode cL_law 830 = .ok (.invokevirtual 82, 3) := by decide +kernel
theorem dL_law_833 : decode cL_law 833 = .ok (.if_icmp .eq 646, 3) := by decide +kernel
theorem dL_law_836 : decode cL_law 836 = .ok (.iconst 0, 1) := by decide +kernel
theorem dL_law_837 : decode cL_law 837 = .ok (.ireturn, 1) := by decide +kernel
theorem dL_law_838 : decode cL_law 838 = .ok (.aload_n 1, 1) := by decide +kernel
theorem dL_law_839 : decode cL_law 839 = .ok (.aload_n 0, 1) := by decide +kernel
theorem dL_law_840 : decode cL_law 840 = .ok (.iload_n 3, 1) := by decide +kernel
theorem dL_law_841 : decode cL_law 841 = .ok (.iconst 1, 1) := by decide +kernel
theorem dL_law_842 : decode cL_law 842 = .ok (.iadd, 1) := by decide +kernel
theorem dL_law_843 : decode cL_law 843 = .ok (.iaload, 1) := by decide +kernel
theorem dL_law_844 : decode cL_law 844 = .ok (.aload_n 0, 1) := by decide +kernel
theorem dL_law_845 : decode cL_law 845 = .ok (.iload_n 3, 1) := by decide +kernel
theorem dL_law_846 : decode cL_law 846 = .ok (.iconst 2, 1) := by decide +kernel
theorem dL_law_847 : decode cL_law 847 = .ok (.iadd, 1) := by decide +kernel
theorem dL_law_848 : decode cL_law 848 = .ok (.iaload, 1) := by decide +kernel
theorem dL_law_849 : decode cL_law 849 = .ok (.aload_n 0, 1) := by decide +kernel
theorem dL_law_850 : decode cL_law 850 = .ok (.iload_n 3, 1) := by decide +kernel
theorem dL_law_851 : decode cL_law 851 = .ok (.iconst 3, 1) := by decide +kernel
theorem dL_law_852 : decode cL_law 852 = .ok (.iadd, 1) := by decide +kernel
theorem dL_law_853 : decode cL_law 853 = .ok (.iaload, 1) := by decide +kernel
theorem dL_law_854 : decode cL_law 854 = .ok (.aload_n 0, 1) := by decide +kernel
theorem dL_law_855 : decode cL_law 855 = .ok (.iload_n 3, 1) := by decide +kernel
theorem dL_law_856 : decode cL_law 856 = .ok (.iconst 4, 1) := by decide +kernel
theorem dL_law_857 : decode cL_law 857 = .ok (.iadd, 1) := by decide +kernel
theorem dL_law_858 : decode cL_law 858 = .ok (.iaload, 1) := by decide +kernel
theorem dL_law_859 : decode cL_law 859 = .ok (.invokevirtual 83, 3) := by decide +kernel
theorem dL_law_862 : decode cL_law 862 = .ok (.aload_n 2, 1) := by decide +kernel
theorem dL_law_863 : decode cL_law 863 = .ok (.aload_n 0, 1) := by decide +kernel
theorem dL_law_864 : decode cL_law 864 = .ok (.iload_n 3, 1) := by decide +kernel
theorem dL_law_865 : decode cL_law 865 = .ok (.iconst 1, 1) := by decide +kernel
theorem dL_law_866 : decode cL_law 866 = .ok (.iadd, 1) := by decide +kernel
theorem dL_law_867 : decode cL_law 867 = .ok (.iaload, 1) := by decide +kernel
theorem dL_law_868 : decode cL_law 868 = .ok (.aload_n 0, 1) := by decide +kernel
theorem dL_law_869 : decode cL_law 869 = .ok (.iload_n 3, 1) := by decide +kernel
theorem dL_law_870 : decode cL_law 870 = .ok (.iconst 2, 1) := by decide +kernel
theorem dL_law_871 : decode cL_law 871 = .ok (.iadd, 1) := by decide +kernel
theorem dL_law_872 : decode cL_law 872 = .ok (.iaload, 1) := by decide +kernel
theorem dL_law_873 : decode cL_law 873 = .ok (.aload_n 0, 1) := by decide +kernel
theorem dL_law_874 : decode cL_law 874 = .ok (.iload_n 3, 1) := by decide +kernel
theorem dL_law_875 : decode cL_law 875 = .ok (.iconst 3, 1) := by decide +kernel
theorem dL_law_876 : decode cL_law 876 = .ok (.iadd, 1) := by decide +kernel
theorem dL_law_877 : decode cL_law 877 = .ok (.iaload, 1) := by decide +kernel
theorem dL_law_878 : decode cL_law 878 = .ok (.aload_n 0, 1) := by decide +kernel
theorem dL_law_879 : decode cL_law 879 = .ok (.iload_n 3, 1) := by decide +kernel
theorem dL_law_880 : decode cL_law 880 = .ok (.iconst 4, 1) := by decide +kernel
theorem dL_law_881 : decode cL_law 881 = .ok (.iadd, 1) := by decide +kernel
theorem dL_law_882 : decode cL_law 882 = .ok (.iaload, 1) := by decide +kernel
theorem dL_law_883 : decode cL_law 883 = .ok (.invokevirtual 86, 3) := by decide +kernel
theorem dL_law_886 : decode cL_law 886 = .ok (.if_icmp .eq 593, 3) := by decide +kernel
theorem dL_law_889 : decode cL_law 889 = .ok (.iconst 0, 1) := by decide +kernel
theorem dL_law_890 : decode cL_law 890 = .ok (.ireturn, 1) := by decide +kernel
theorem dL_law_891 : decode cL_law 891 = .ok (.aload_n 1, 1) := by decide +kernel
theorem dL_law_892 : decode cL_law 892 = .ok (.aload_n 0, 1) := by decide +kernel
theorem dL_law_893 : decode cL_law 893 = .ok (.iload_n 3, 1) := by decide +kernel
theorem dL_law_894 : decode cL_law 894 = .ok (.iconst 1, 1) := by decide +kernel
theorem dL_law_895 : decode cL_law 895 = .ok (.iadd, 1) := by decide +kernel
theorem dL_law_896 : decode cL_law 896 = .ok (.iaload, 1) := by decide +kernel
theorem dL_law_897 : decode cL_law 897 = .ok (.aload_n 0, 1) := by decide +kernel
theorem dL_law_898 : decode cL_law 898 = .ok (.iload_n 3, 1) := by decide +kernel
theorem dL_law_899 : decode cL_law 899 = .ok (.iconst 2, 1) := by decide +kernel
theorem dL_law_900 : decode cL_law 900 = .ok (.iadd, 1) := by decide +kernel
theorem dL_law_901 : decode cL_law 901 = .ok (.iaload, 1) := by decide +kernel
theorem dL_law_902 : decode cL_law 902 = .ok (.invokevirtual 87, 3) := by decide +kernel
theorem dL_law_905 : decode cL_law 905 = .ok (.aload_n 2, 1) := by decide +kernel
theorem dL_law_906 : decode cL_law 906 = .ok (.aload_n 0, 1) := by decide +kernel
theorem dL_law_907 : decode cL_law 907 = .ok (.iload_n 3, 1) := by decide +kernel
theorem dL_law_908 : decode cL_law 908 = .ok (.iconst 1, 1) := by decide +kernel
theorem dL_law_909 : decode cL_law 909 = .ok (.iadd, 1) := by decide +kernel
theorem dL_law_910 : decode cL_law 910 = .ok (.iaload, 1) := by decide +kernel
theorem dL_law_911 : decode cL_law 911 = .ok (.aload_n 0, 1) := by decide +kernel
theorem dL_law_912 : decode cL_law 912 = .ok (.iload_n 3, 1) := by decide +kernel
theorem dL_law_913 : decode cL_law 913 = .ok (.iconst 2, 1) := by decide +kernel
theorem dL_law_914 : decode cL_law 914 = .ok (.iadd, 1) := by decide +kernel
theorem dL_law_915 : decode cL_law 915 = .ok (.iaload, 1) := by decide +kernel
theorem dL_law_916 : decode cL_law 916 = .ok (.invokevirtual 90, 3) := by decide +kernel
theorem dL_law_919 : decode cL_law 919 = .ok (.if_icmp .eq 560, 3) := by decide +kernel
theorem dL_law_922 : decode cL_law 922 = .ok (.iconst 0, 1) := by decide +kernel
theorem dL_law_923 : decode cL_law 923 = .ok (.ireturn, 1) := by decide +kernel
theorem dL_law_924 : decode cL_law 924 = .ok (.aload_n 1, 1) := by decide +kernel
theorem dL_law_925 : decode cL_law 925 = .ok (.aload_n 0, 1) := by decide +kernel
theorem dL_law_926 : decode cL_law 926 = .ok (.iload_n 3, 1) := by decide +kernel
theorem dL_law_927 : decode cL_law 927 = .ok (.iconst 1, 1) := by decide +kernel
theorem dL_law_928 : decode cL_law 928 = .ok (.iadd, 1) := by decide +kernel
theorem dL_law_929 : decode cL_law 929 = .ok (.iaload, 1) := by decide +kernel
theorem dL_law_930 : decode cL_law 930 = .ok (.aload_n 0, 1) := by decide +kernel
theorem dL_law_931 : decode cL_law 931 = .ok (.iload_n 3, 1) := by decide +kernel
theorem dL_law_932 : decode cL_law 932 = .ok (.iconst 2, 1) := by decide +kernel
theorem dL_law_933 : decode cL_law 933 = .ok (.iadd, 1) := by decide +kernel
theorem dL_law_934 : decode cL_law 934 = .ok (.iaload, 1) := by decide +kernel
theorem dL_law_935 : decode cL_law 935 = .ok (.aload_n 0, 1) := by decide +kernel
theorem dL_law_936 : decode cL_law 936 = .ok (.iload_n 3, 1) := by decide +kernel
theorem dL_law_937 : decode cL_law 937 = .ok (.iconst 3, 1) := by decide +kernel
theorem dL_law_938 : decode cL_law 938 = .ok (.iadd, 1) := by decide +kernel
theorem dL_law_939 : decode cL_law 939 = .ok (.iaload, 1) := by decide +kernel
theorem dL_law_940 : decode cL_law 940 = .ok (.aload_n 0, 1) := by decide +kernel
theorem dL_law_941 : decode cL_law 941 = .ok (.iload_n 3, 1) := by decide +kernel
theorem dL_law_942 : decode cL_law 942 = .ok (.iconst 4, 1) := by decide +kernel
theorem dL_law_943 : decode cL_law 943 = .ok (.iadd, 1) := by decide +kernel
theorem dL_law_944 : decode cL_law 944 = .ok (.iaload, 1) := by decide +kernel
theorem dL_law_945 : decode cL_law 945 = .ok (.invokevirtual 91, 3) := by decide +kernel
theorem dL_law_948 : decode cL_law 948 = .ok (.aload_n 2, 1) := by decide +kernel
theorem dL_law_949 : decode cL_law 949 = .ok (.aload_n 0, 1) := by decide +kernel
theorem dL_law_950 : decode cL_law 950 = .ok (.iload_n 3, 1) := by decide +kernel
theorem dL_law_951 : decode cL_law 951 = .ok (.iconst 1, 1) := by decide +kernel
theorem dL_law_952 : decode cL_law 952 = .ok (.iadd, 1) := by decide +kernel
theorem dL_law_953 : decode cL_law 953 = .ok (.iaload, 1) := by decide +kernel
theorem dL_law_954 : decode cL_law 954 = .ok (.aload_n 0, 1) := by decide +kernel
theorem dL_law_955 : decode cL_law 955 = .ok (.iload_n 3, 1) := by decide +kernel
theorem dL_law_956 : decode cL_law 956 = .ok (.iconst 2, 1) := by decide +kernel
theorem dL_law_957 : decode cL_law 957 = .ok (.iadd, 1) := by decide +kernel
theorem dL_law_958 : decode cL_law 958 = .ok (.iaload, 1) := by decide +kernel
theorem dL_law_959 : decode cL_law 959 = .ok (.aload_n 0, 1) := by decide +kernel
theorem dL_law_960 : decode cL_law 960 = .ok (.iload_n 3, 1) := by decide +kernel
theorem dL_law_961 : decode cL_law 961 = .ok (.iconst 3, 1) := by decide +kernel
theorem dL_law_962 : decode cL_law 962 = .ok (.iadd, 1) := by decide +kernel
theorem dL_law_963 : decode cL_law 963 = .ok (.iaload, 1) := by decide +kernel
theorem dL_law_964 : decode cL_law 964 = .ok (.aload_n 0, 1) := by decide +kernel
theorem dL_law_965 : decode cL_law 965 = .ok (.iload_n 3, 1) := by decide +kernel
theorem dL_law_966 : decode cL_law 966 = .ok (.iconst 4, 1) := by decide +kernel
theorem dL_law_967 : decode cL_law 967 = .ok (.iadd, 1) := by decide +kernel
theorem dL_law_968 : decode cL_law 968 = .ok (.iaload, 1) := by decide +kernel
theorem dL_law_969 : decode cL_law 969 = .ok (.invokevirtual 94, 3) := by decide +kernel
theorem dL_law_972 : decode cL_law 972 = .ok (.if_icmp .eq 507, 3) := by decide +kernel
theorem dL_law_975 : decode cL_law 975 = .ok (.iconst 0, 1) := by decide +kernel
theorem dL_law_976 : decode cL_law 976 = .ok (.ireturn, 1) := by decide +kernel
theorem dL_law_977 : decode cL_law 977 = .ok (.aload_n 1, 1) := by decide +kernel
theorem dL_law_978 : decode cL_law 978 = .ok (.aload_n 0, 1) := by decide +kernel
theorem dL_law_979 : decode cL_law 979 = .ok (.iload_n 3, 1) := by decide +kernel
theorem dL_law_980 : decode cL_law 980 = .ok (.iconst 1, 1) := by decide +kernel
theorem dL_law_981 : decode cL_law 981 = .ok (.iadd, 1) := by decide +kernel
theorem dL_law_982 : decode cL_law 982 = .ok (.iaload, 1) := by decide +kernel
theorem dL_law_983 : decode cL_law 983 = .ok (.invokevirtual 95, 3) := by decide +kernel
theorem dL_law_986 : decode cL_law 986 = .ok (.aload_n 2, 1) := by decide +kernel
theorem dL_law_987 : decode cL_law 987 = .ok (.aload_n 0, 1) := by decide +kernel
theorem dL_law_988 : decode cL_law 988 = .ok (.iload_n 3, 1) := by decide +kernel
theorem dL_law_989 : decode cL_law 989 = .ok (.iconst 1, 1) := by decide +kernel
theorem dL_law_990 : decode cL_law 990 = .ok (.iadd, 1) := by decide +kernel
theorem dL_law_991 : decode cL_law 991 = .ok (.iaload, 1) := by decide +kernel
theorem dL_law_992 : decode cL_law 992 = .ok (.invokevirtual 99, 3) := by decide +kernel
theorem dL_law_995 : decode cL_law 995 = .ok (.if_icmp .eq 484, 3) := by decide +kernel
theorem dL_law_998 : decode cL_law 998 = .ok (.iconst 0, 1) := by decide +kernel
theorem dL_law_999 : decode cL_law 999 = .ok (.ireturn, 1) := by decide +kernel
theorem dL_law_1000 : decode cL_law 1000 = .ok (.aload_n 1, 1) := by decide +kernel
theorem dL_law_1001 : decode cL_law 1001 = .ok (.aload_n 0, 1) := by decide +kernel
theorem dL_law_1002 : decode cL_law 1002 = .ok (.iload_n 3, 1) := by decide +kernel
theorem dL_law_1003 : decode cL_law 1003 = .ok (.iconst 1, 1) := by decide +kernel
theorem dL_law_1004 : decode cL_law 1004 = .ok (.iadd, 1) := by decide +kernel
theorem dL_law_1005 : decode cL_law 1005 = .ok (.iaload, 1) := by decide +kernel
theorem dL_law_1006 : decode cL_law 1006 = .ok (.invokevirtual 100, 3) := by decide +kernel
theorem dL_law_1009 : decode cL_law 1009 = .ok (.aload_n 2, 1) := by decide +kernel
theorem dL_law_1010 : decode cL_law 1010 = .ok (.aload_n 0, 1) := by decide +kernel
theorem dL_law_1011 : decode cL_law 1011 = .ok (.iload_n 3, 1) := by decide +kernel
theorem dL_law_1012 : decode cL_law 1012 = .ok (.iconst 1, 1) := by decide +kernel
theorem dL_law_1013 : decode cL_law 1013 = .ok (.iadd, 1) := by decide +kernel
theorem dL_law_1014 : decode cL_law 1014 = .ok (.iaload, 1) := by decide +kernel
theorem dL_law_1015 : decode cL_law 1015 = .ok (.invokevirtual 103, 3) := by decide +kernel
theorem dL_law_1018 : decode cL_law 1018 = .ok (.if_icmp .eq 461, 3) := by decide +kernel
theorem dL_law_1021 : decode cL_law 1021 = .ok (.iconst 0, 1) := by decide +kernel
theorem dL_law_1022 : decode cL_law 1022 = .ok (.ireturn, 1) := by decide +kernel
theorem dL_law_1023 : decode cL_law 1023 = .ok (.aload_n 1, 1) := by decide +kernel
theorem dL_law_1024 : decode cL_law 1024 = .ok (.aload_n 0, 1) := by decide +kernel
theorem dL_law_1025 : decode cL_law 1025 = .ok (.iload_n 3, 1) := by decide +kernel
theorem dL_law_1026 : decode cL_law 1026 = .ok (.iconst 1, 1) := by decide +kernel
theorem dL_law_1027 : decode cL_law 1027 = .ok (.iadd, 1) := by decide +kernel
theorem dL_law_1028 : decode cL_law 1028 = .ok (.iaload, 1) := by decide +kernel
theorem dL_law_1029 : decode cL_law 1029 = .ok (.aload_n 0, 1) := by decide +kernel
theorem dL_law_1030 : decode cL_law 1030 = .ok (.iload_n 3, 1) := by decide +kernel
theorem dL_law_1031 : decode cL_law 1031 = .ok (.iconst 2, 1) := by decide +kernel
theorem dL_law_1032 : decode cL_law 1032 = .ok (.iadd, 1) := by decide +kernel
theorem dL_law_1033 : decode cL_law 1033 = .ok (.iaload, 1) := by decide +kernel
theorem dL_law_1034 : decode cL_law 1034 = .ok (.aload_n 0, 1) := by decide +kernel
theorem dL_law_1035 : decode cL_law 1035 = .ok (.iload_n 3, 1) := by decide +kernel
theorem dL_law_1036 : decode cL_law 1036 = .ok (.iconst 3, 1) := by decide +kernel
theorem dL_law_1037 : decode cL_law 1037 = .ok (.iadd, 1) := by decide +kernel
theorem dL_law_1038 : decode cL_law 1038 = .ok (.iaload, 1) := by decide +kernel
theorem dL_law_1039 : decode cL_law 1039 = .ok (.invokevirtual 104, 3) := by decide +kernel
theorem dL_law_1042 : decode cL_law 1042 = .ok (.aload_n 2, 1) := by decide +kernel
theorem dL_law_1043 : decode cL_law 1043 = .ok (.aload_n 0, 1) := by decide +kernel
theorem dL_law_1044 : decode cL_law 1044 = .ok (.iload_n 3, 1) := by decide +kernel
theorem dL_law_1045 : decode cL_law 1045 = .ok (.iconst 1, 1) := by decide +kernel
theorem dL_law_1046 : decode cL_law 1046 = .ok (.iadd, 1) := by decide +kernel
theorem dL_law_1047 : decode cL_law 1047 = .ok (.iaload, 1) := by decide +kernel
theorem dL_law_1048 : decode cL_law 1048 = .ok (.aload_n 0, 1) := by decide +kernel
theorem dL_law_1049 : decode cL_law 1049 = .ok (.iload_n 3, 1) := by decide +kernel
theorem dL_law_1050 : decode cL_law 1050 = .ok (.iconst 2, 1) := by decide +kernel
theorem dL_law_1051 : decode cL_law 1051 = .ok (.iadd, 1) := by decide +kernel
theorem dL_law_1052 : decode cL_law 1052 = .ok (.iaload, 1) := by decide +kernel
theorem dL_law_1053 : decode cL_law 1053 = .ok (.aload_n 0, 1) := by decide +kernel
theorem dL_law_1054 : decode cL_law 1054 = .ok (.iload_n 3, 1) := by decide +kernel
theorem dL_law_1055 : decode cL_law 1055 = .ok (.iconst 3, 1) := by decide +kernel
theorem dL_law_1056 : decode cL_law 1056 = .ok (.iadd, 1) := by decide +kernel
theorem dL_law_1057 : decode cL_law 1057 = .ok (.iaload, 1) := by decide +kernel
theorem dL_law_1058 : decode cL_law 1058 = .ok (.invokevirtual 107, 3) := by decide +kernel
theorem dL_law_1061 : decode cL_law 1061 = .ok (.if_icmp .eq 418, 3) := by decide +kernel
theorem dL_law_1064 : decode cL_law 1064 = .ok (.iconst 0, 1) := by decide +kernel
theorem dL_law_1065 : decode cL_law 1065 = .ok (.ireturn, 1) := by decide +kernel
theorem dL_law_1066 : decode cL_law 1066 = .ok (.aload_n 1, 1) := by decide +kernel
theorem dL_law_1067 : decode cL_law 1067 = .ok (.aload_n 0, 1) := by decide +kernel
theorem dL_law_1068 : decode cL_law 1068 = .ok (.iload_n 3, 1) := by decide +kernel
theorem dL_law_1069 : decode cL_law 1069 = .ok (.iconst 1, 1) := by decide +kernel
theorem dL_law_1070 : decode cL_law 1070 = .ok (.iadd, 1) := by decide +kernel
theorem dL_law_1071 : decode cL_law 1071 = .ok (.iaload, 1) := by decide +kernel
theorem dL_law_1072 : decode cL_law 1072 = .ok (.aload_n 0, 1) := by decide +kernel
theorem dL_law_1073 : decode cL_law 1073 = .ok (.iload_n 3, 1) := by decide +kernel
theorem dL_law_1074 : decode cL_law 1074 = .ok (.iconst 2, 1) := by decide +kernel
theorem dL_law_1075 : decode cL_law 1075 = .ok (.iadd, 1) := by decide +kernel
theorem dL_law_1076 : decode cL_law 1076 = .ok (.iaload, 1) := by decide +kernel
theorem dL_law_1077 : decode cL_law 1077 = .ok (.invokevirtual 108, 3) := by decide +kernel
theorem dL_law_1080 : decode cL_law 1080 = .ok (.aload_n 2, 1) := by decide +kernel
theorem dL_law_1081 : decode cL_law 1081 = .ok (.aload_n 0, 1) := by decide +kernel
theorem dL_law_1082 : decode cL_law 1082 = .ok (.iload_n 3, 1) := by decide +kernel
theorem dL_law_1083 : decode cL_law 1083 = .ok (.iconst 1, 1) := by decide +kernel
theorem dL_law_1084 : decode cL_law 1084 = .ok (.iadd, 1) := by decide +kernel
theorem dL_law_1085 : decode cL_law 1085 = .ok (.iaload, 1) := by decide +kernel
theorem dL_law_1086 : decode cL_law 1086 = .ok (.aload_n 0, 1) := by decide +kernel
theorem dL_law_1087 : decode cL_law 1087 = .ok (.iload_n 3, 1) := by decide +kernel
theorem dL_law_1088 : decode cL_law 1088 = .ok (.iconst 2, 1) := by decide +kernel
theorem dL_law_1089 : decode cL_law 1089 = .ok (.iadd, 1) := by decide +kernel
theorem dL_law_1090 : decode cL_law 1090 = .ok (.iaload, 1) := by decide +kernel
theorem dL_law_1091 : decode cL_law 1091 = .ok (.invokevirtual 111, 3) := by decide +kernel
theorem dL_law_1094 : decode cL_law 1094 = .ok (.if_icmp .eq 385, 3) := by decide +kernel
theorem dL_law_1097 : decode cL_law 1097 = .ok (.iconst 0, 1) := by decide +kernel
theorem dL_law_1098 : decode cL_law 1098 = .ok (.ireturn, 1) := by decide +kernel
theorem dL_law_1099 : decode cL_law 1099 = .ok (.aload_n 1, 1) := by decide +kernel
theorem dL_law_1100 : decode cL_law 1100 = .ok (.aload_n 0, 1) := by decide +kernel
theorem dL_law_1101 : decode cL_law 1101 = .ok (.iload_n 3, 1) := by decide +kernel
theorem dL_law_1102 : decode cL_law 1102 = .ok (.iconst 1, 1) := by decide +kernel
theorem dL_law_1103 : decode cL_law 1103 = .ok (.iadd, 1) := by decide +kernel
theorem dL_law_1104 : decode cL_law 1104 = .ok (.iaload, 1) := by decide +kernel
theorem dL_law_1105 : decode cL_law 1105 = .ok (.aload_n 0, 1) := by decide +kernel
theorem dL_law_1106 : decode cL_law 1106 = .ok (.iload_n 3, 1) := by decide +kernel
theorem dL_law_1107 : decode cL_law 1107 = .ok (.iconst 2, 1) := by decide +kernel
theorem dL_law_1108 : decode cL_law 1108 = .ok (.iadd, 1) := by decide +kernel
theorem dL_law_1109 : decode cL_law 1109 = .ok (.iaload, 1) := by decide +kernel
theorem dL_law_1110 : decode cL_law 1110 = .ok (.invokevirtual 112, 3) := by decide +kernel
theorem dL_law_1113 : decode cL_law 1113 = .ok (.aload_n 2, 1) := by decide +kernel
theorem dL_law_1114 : decode cL_law 1114 = .ok (.aload_n 0, 1) := by decide +kernel
theorem dL_law_1115 : decode cL_law 1115 = .ok (.iload_n 3, 1) := by decide +kernel
theorem dL_law_1116 : decode cL_law 1116 = .ok (.iconst 1, 1) := by decide +kernel
theorem dL_law_1117 : decode cL_law 1117 = .ok (.iadd, 1) := by decide +kernel
theorem dL_law_1118 : decode cL_law 1118 = .ok (.iaload, 1) := by decide +kernel
theorem dL_law_1119 : decode cL_law 1119 = .ok (.aload_n 0, 1) := by decide +kernel
theorem dL_law_1120 : decode cL_law 1120 = .ok (.iload_n 3, 1) := by decide +kernel
theorem dL_law_1121 : decode cL_law 1121 = .ok (.iconst 2, 1) := by decide +kernel
theorem dL_law_1122 : decode cL_law 1122 = .ok (.iadd, 1) := by decide +kernel
theorem dL_law_1123 : decode cL_law 1123 = .ok (.iaload, 1) := by decide +kernel
theorem dL_law_1124 : decode cL_law 1124 = .ok (.invokevirtual 115, 3) := by decide +kernel
theorem dL_law_1127 : decode cL_law 1127 = .ok (.if_icmp .eq 352, 3) := by decide +kernel
theorem dL_law_1130 : decode cL_law 1130 = .ok (.iconst 0, 1) := by decide +kernel
theorem dL_law_1131 : decode cL_law 1131 = .ok (.ireturn, 1) := by decide +kernel
theorem dL_law_1132 : decode cL_law 1132 = .ok (.aload_n 1, 1) := by decide +kernel
theorem dL_law_1133 : decode cL_law 1133 = .ok (.aload_n 0, 1) := by decide +kernel
theorem dL_law_1134 : decode cL_law 1134 = .ok (.iload_n 3, 1) := by decide +kernel
theorem dL_law_1135 : decode cL_law 1135 = .ok (.iconst 1, 1) := by decide +kernel
theorem dL_law_1136 : decode cL_law 1136 = .ok (.iadd, 1) := by decide +kernel
theorem dL_law_1137 : decode cL_law 1137 = .ok (.iaload, 1) := by decide +kernel
theorem dL_law_1138 : decode cL_law 1138 = .ok (.aload_n 0, 1) := by decide +kernel
theorem dL_law_1139 : decode cL_law 1139 = .ok (.iload_n 3, 1) := by decide +kernel
theorem dL_law_1140 : decode cL_law 1140 = .ok (.iconst 2, 1) := by decide +kernel
theorem dL_law_1141 : decode cL_law 1141 = .ok (.iadd, 1) := by decide +kernel
theorem dL_law_1142 : decode cL_law 1142 = .ok (.iaload, 1) := by decide +kernel
theorem dL_law_1143 : decode cL_law 1143 = .ok (.invokevirtual 116, 3) := by decide +kernel
theorem dL_law_1146 : decode cL_law 1146 = .ok (.aload_n 2, 1) := by decide +kernel
theorem dL_law_1147 : decode cL_law 1147 = .ok (.aload_n 0, 1) := by decide +kernel
theorem dL_law_1148 : decode cL_law 1148 = .ok (.iload_n 3, 1) := by decide +kernel
theorem dL_law_1149 : decode cL_law 1149 = .ok (.iconst 1, 1) := by decide +kernel
theorem dL_law_1150 : decode cL_law 1150 = .ok (.iadd, 1) := by decide +kernel
theorem dL_law_1151 : decode cL_law 1151 = .ok (.iaload, 1) := by decide +kernel
theorem dL_law_1152 : decode cL_law 1152 = .ok (.aload_n 0, 1) := by decide +kernel
theorem dL_law_1153 : decode cL_law 1153 = .ok (.iload_n 3, 1) := by decide +kernel
theorem dL_law_1154 : decode cL_law 1154 = .ok (.iconst 2, 1) := by decide +kernel
theorem dL_law_1155 : decode cL_law 1155 = .ok (.iadd, 1) := by decide +kernel
theorem dL_law_1156 : decode cL_law 1156 = .ok (.iaload, 1) := by decide +kernel
theorem dL_law_1157 : decode cL_law 1157 = .ok (.invokevirtual 119, 3) := by decide +kernel
theorem dL_law_1160 : decode cL_law 1160 = .ok (.if_icmp .eq 319, 3) := by decide +kernel
theorem dL_law_1163 : decode cL_law 1163 = .ok (.iconst 0, 1) := by decide +kernel
theorem dL_law_1164 : decode cL_law 1164 = .ok (.ireturn, 1) := by decide +kernel
theorem dL_law_1165 : decode cL_law 1165 = .ok (.aload_n 1, 1) := by decide +kernel
theorem dL_law_1166 : decode cL_law 1166 = .ok (.aload_n 0, 1) := by decide +kernel
theorem dL_law_1167 : decode cL_law 1167 = .ok (.iload_n 3, 1) := by decide +kernel
theorem dL_law_1168 : decode cL_law 1168 = .ok (.iconst 1, 1) := by decide +kernel
theorem dL_law_1169 : decode cL_law 1169 = .ok (.iadd, 1) := by decide +kernel
theorem dL_law_1170 : decode cL_law 1170 = .ok (.iaload, 1) := by decide +kernel
theorem dL_law_1171 : decode cL_law 1171 = .ok (.aload_n 0, 1) := by decide +kernel
theorem dL_law_1172 : decode cL_law 1172 = .ok (.iload_n 3, 1) := by decide +kernel
theorem dL_law_1173 : decode cL_law 1173 = .ok (.iconst 2, 1) := by decide +kernel
theorem dL_law_1174 : decode cL_law 1174 = .ok (.iadd, 1) := by decide +kernel
theorem dL_law_1175 : decode cL_law 1175 = .ok (.iaload, 1) := by decide +kernel
theorem dL_law_1176 : decode cL_law 1176 = .ok (.aload_n 0, 1) := by decide +kernel
theorem dL_law_1177 : decode cL_law 1177 = .ok (.iload_n 3, 1) := by decide +kernel
theorem dL_law_1178 : decode cL_law 1178 = .ok (.iconst 3, 1) := by decide +kernel
theorem dL_law_1179 : decode cL_law 1179 = .ok (.iadd, 1) := by decide +kernel
theorem dL_law_1180 : decode cL_law 1180 = .ok (.iaload, 1) := by decide +kernel
theorem dL_law_1181 : decode cL_law 1181 = .ok (.invokevirtual 120, 3) := by decide +kernel
theorem dL_law_1184 : decode cL_law 1184 = .ok (.aload_n 2, 1) := by decide +kernel
theorem dL_law_1185 : decode cL_law 1185 = .ok (.aload_n 0, 1) := by decide +kernel
theorem dL_law_1186 : decode cL_law 1186 = .ok (.iload_n 3, 1) := by decide +kernel
theorem dL_law_1187 : decode cL_law 1187 = .ok (.iconst 1, 1) := by decide +kernel
theorem dL_law_1188 : decode cL_law 1188 = .ok (.iadd, 1) := by decide +kernel
theorem dL_law_1189 : decode cL_law 1189 = .ok (.iaload, 1) := by decide +kernel
theorem dL_law_1190 : decode cL_law 1190 = .ok (.aload_n 0, 1) := by decide +kernel
theorem dL_law_1191 : decode cL_law 1191 = .ok (.iload_n 3, 1) := by decide +kernel
theorem dL_law_1192 : decode cL_law 1192 = .ok (.iconst 2, 1) := by decide +kernel
theorem dL_law_1193 : decode cL_law 1193 = .ok (.iadd, 1) := by decide +kernel
theorem dL_law_1194 : decode cL_law 1194 = .ok (.iaload, 1) := by decide +kernel
theorem dL_law_1195 : decode cL_law 1195 = .ok (.aload_n 0, 1) := by decide +kernel
theorem dL_law_1196 : decode cL_law 1196 = .ok (.iload_n 3, 1) := by decide +kernel
theorem dL_law_1197 : decode cL_law 1197 = .ok (.iconst 3, 1) := by decide +kernel
theorem dL_law_1198 : decode cL_law 1198 = .ok (.iadd, 1) := by decide +kernel
theorem dL_law_1199 : decode cL_law 1199 = .ok (.iaload, 1) := by decide +kernel
theorem dL_law_1200 : decode cL_law 1200 = .ok (.invokevirtual 123, 3) := by decide +kernel
theorem dL_law_1203 : decode cL_law 1203 = .ok (.if_icmp .eq 276, 3) := by decide +kernel
theorem dL_law_1206 : decode cL_law 1206 = .ok (.iconst 0, 1) := by decide +kernel
theorem dL_law_1207 : decode cL_law 1207 = .ok (.ireturn, 1) := by decide +kernel
theorem dL_law_1208 : decode cL_law 1208 = .ok (.aload_n 1, 1) := by decide +kernel
theorem dL_law_1209 : decode cL_law 1209 = .ok (.aload_n 0, 1) := by decide +kernel
theorem dL_law_1210 : decode cL_law 1210 = .ok (.iload_n 3, 1) := by decide +kernel
theorem dL_law_1211 : decode cL_law 1211 = .ok (.iconst 1, 1) := by decide +kernel
theorem dL_law_1212 : decode cL_law 1212 = .ok (.iadd, 1) := by decide +kernel
theorem dL_law_1213 : decode cL_law 1213 = .ok (.iaload, 1) := by decide +kernel
theorem dL_law_1214 : decode cL_law 1214 = .ok (.aload_n 0, 1) := by decide +kernel
theorem dL_law_1215 : decode cL_law 1215 = .ok (.iload_n 3, 1) := by decide +kernel
theorem dL_law_1216 : decode cL_law 1216 = .ok (.iconst 2, 1) := by decide +kernel
theorem dL_law_1217 : decode cL_law 1217 = .ok (.iadd, 1) := by decide +kernel
theorem dL_law_1218 : decode cL_law 1218 = .ok (.iaload, 1) := by decide +kernel
theorem dL_law_1219 : decode cL_law 1219 = .ok (.aload_n 0, 1) := by decide +kernel
theorem dL_law_1220 : decode cL_law 1220 = .ok (.iload_n 3, 1) := by decide +kernel
theorem dL_law_1221 : decode cL_law 1221 = .ok (.iconst 3, 1) := by decide +kernel
theorem dL_law_1222 : decode cL_law 1222 = .ok (.iadd, 1) := by decide +kernel
theorem dL_law_1223 : decode cL_law 1223 = .ok (.iaload, 1) := by decide +kernel
theorem dL_law_1224 : decode cL_law 1224 = .ok (.aload_n 0, 1) := by decide +kernel
theorem dL_law_1225 : decode cL_law 1225 = .ok (.iload_n 3, 1) := by decide +kernel
theorem dL_law_1226 : decode cL_law 1226 = .ok (.iconst 4, 1) := by decide +kernel
theorem dL_law_1227 : decode cL_law 1227 = .ok (.iadd, 1) := by decide +kernel
theorem dL_law_1228 : decode cL_law 1228 = .ok (.iaload, 1) := by decide +kernel
theorem dL_law_1229 : decode cL_law 1229 = .ok (.aload_n 0, 1) := by decide +kernel
theorem dL_law_1230 : decode cL_law 1230 = .ok (.iload_n 3, 1) := by decide +kernel
theorem dL_law_1231 : decode cL_law 1231 = .ok (.iconst 5, 1) := by decide +kernel
theorem dL_law_1232 : decode cL_law 1232 = .ok (.iadd, 1) := by decide +kernel
theorem dL_law_1233 : decode cL_law 1233 = .ok (.iaload, 1) := by decide +kernel
theorem dL_law_1234 : decode cL_law 1234 = .ok (.invokevirtual 124, 3) := by decide +kernel
theorem dL_law_1237 : decode cL_law 1237 = .ok (.aload_n 2, 1) := by decide +kernel
theorem dL_law_1238 : decode cL_law 1238 = .ok (.aload_n 0, 1) := by decide +kernel
theorem dL_law_1239 : decode cL_law 1239 = .ok (.iload_n 3, 1) := by decide +kernel
theorem dL_law_1240 : decode cL_law 1240 = .ok (.iconst 1, 1) := by decide +kernel
theorem dL_law_1241 : decode cL_law 1241 = .ok (.iadd, 1) := by decide +kernel
theorem dL_law_1242 : decode cL_law 1242 = .ok (.iaload, 1) := by decide +kernel
theorem dL_law_1243 : decode cL_law 1243 = .ok (.aload_n 0, 1) := by decide +kernel
theorem dL_law_1244 : decode cL_law 1244 = .ok (.iload_n 3, 1) := by decide +kernel
theorem dL_law_1245 : decode cL_law 1245 = .ok (.iconst 2, 1) := by decide +kernel
theorem dL_law_1246 : decode cL_law 1246 = .ok (.iadd, 1) := by decide +kernel
theorem dL_law_1247 : decode cL_law 1247 = .ok (.iaload, 1) := by decide +kernel
theorem dL_law_1248 : decode cL_law 1248 = .ok (.aload_n 0, 1) := by decide +kernel
theorem dL_law_1249 : decode cL_law 1249 = .ok (.iload_n 3, 1) := by decide +kernel
theorem dL_law_1250 : decode cL_law 1250 = .ok (.iconst 3, 1) := by decide +kernel
theorem dL_law_1251 : decode cL_law 1251 = .ok (.iadd, 1) := by decide +kernel
theorem dL_law_1252 : decode cL_law 1252 = .ok (.iaload, 1) := by decide +kernel
theorem dL_law_1253 : decode cL_law 1253 = .ok (.aload_n 0, 1) := by decide +kernel
theorem dL_law_1254 : decode cL_law 1254 = .ok (.iload_n 3, 1) := by decide +kernel
theorem dL_law_1255 : decode cL_law 1255 = .ok (.iconst 4, 1) := by decide +kernel
theorem dL_law_1256 : decode cL_law 1256 = .ok (.iadd, 1) := by decide +kernel
theorem dL_law_1257 : decode cL_law 1257 = .ok (.iaload, 1) := by decide +kernel
theorem dL_law_1258 : decode cL_law 1258 = .ok (.aload_n 0, 1) := by decide +kernel
theorem dL_law_1259 : decode cL_law 1259 = .ok (.iload_n 3, 1) := by decide +kernel
theorem dL_law_1260 : decode cL_law 1260 = .ok (.iconst 5, 1) := by decide +kernel
theorem dL_law_1261 : decode cL_law 1261 = .ok (.iadd, 1) := by decide +kernel
theorem dL_law_1262 : decode cL_law 1262 = .ok (.iaload, 1) := by decide +kernel
theorem dL_law_1263 : decode cL_law 1263 = .ok (.invokevirtual 127, 3) := by decide +kernel
theorem dL_law_1266 : decode cL_law 1266 = .ok (.if_icmp .eq 213, 3) := by decide +kernel
theorem dL_law_1269 : decode cL_law 1269 = .ok (.iconst 0, 1) := by decide +kernel
theorem dL_law_1270 : decode cL_law 1270 = .ok (.ireturn, 1) := by decide +kernel
theorem dL_law_1271 : decode cL_law 1271 = .ok (.aload_n 1, 1) := by decide +kernel
theorem dL_law_1272 : decode cL_law 1272 = .ok (.aload_n 0, 1) := by decide +kernel
theorem dL_law_1273 : decode cL_law 1273 = .ok (.iload_n 3, 1) := by decide +kernel
theorem dL_law_1274 : decode cL_law 1274 = .ok (.iconst 1, 1) := by decide +kernel
theorem dL_law_1275 : decode cL_law 1275 = .ok (.iadd, 1) := by decide +kernel
theorem dL_law_1276 : decode cL_law 1276 = .ok (.iaload, 1) := by decide +kernel
theorem dL_law_1277 : decode cL_law 1277 = .ok (.aload_n 0, 1) := by decide +kernel
theorem dL_law_1278 : decode cL_law 1278 = .ok (.iload_n 3, 1) := by decide +kernel
theorem dL_law_1279 : decode cL_law 1279 = .ok (.iconst 2, 1) := by decide +kernel
theorem dL_law_1280 : decode cL_law 1280 = .ok (.iadd, 1) := by decide +kernel
theorem dL_law_1281 : decode cL_law 1281 = .ok (.iaload, 1) := by decide +kernel
theorem dL_law_1282 : decode cL_law 1282 = .ok (.aload_n 0, 1) := by decide +kernel
theorem dL_law_1283 : decode cL_law 1283 = .ok (.iload_n 3, 1) := by decide +kernel
theorem dL_law_1284 : decode cL_law 1284 = .ok (.iconst 3, 1) := by decide +kernel
theorem dL_law_1285 : decode cL_law 1285 = .ok (.iadd, 1) := by decide +kernel
theorem dL_law_1286 : decode cL_law 1286 = .ok (.iaload, 1) := by decide +kernel
theorem dL_law_1287 : decode cL_law 1287 = .ok (.aload_n 0, 1) := by decide +kernel
theorem dL_law_1288 : decode cL_law 1288 = .ok (.iload_n 3, 1) := by decide +kernel
theorem dL_law_1289 : decode cL_law 1289 = .ok (.iconst 4, 1) := by decide +kernel
theorem dL_law_1290 : decode cL_law 1290 = .ok (.iadd, 1) := by decide +kernel
theorem dL_law_1291 : decode cL_law 1291 = .ok (.iaload, 1) := by decide +kernel
theorem dL_law_1292 : decode cL_law 1292 = .ok (.invokevirtual 128, 3) := by decide +kernel
theorem dL_law_1295 : decode cL_law 1295 = .ok (.aload_n 2, 1) := by decide +kernel
theorem dL_law_1296 : decode cL_law 1296 = .ok (.aload_n 0, 1) := by decide +kernel
theorem dL_law_1297 : decode cL_law 1297 = .ok (.iload_n 3, 1) := by decide +kernel
theorem dL_law_1298 : decode cL_law 1298 = .ok (.iconst 1, 1) := by decide +kernel
theorem dL_law_1299 : decode cL_law 1299 = .ok (.iadd, 1) := by decide +kernel
theorem dL_law_1300 : decode cL_law 1300 = .ok (.iaload, 1) := by decide +kernel
theorem dL_law_1301 : decode cL_law 1301 = .ok (.aload_n 0, 1) := by decide +kernel
theorem dL_law_1302 : decode cL_law 1302 = .ok (.iload_n 3, 1) := by decide +kernel
theorem dL_law_1303 : decode cL_law 1303 = .ok (.iconst 2, 1) := by decide +kernel
theorem dL_law_1304 : decode cL_law 1304 = .ok (.iadd, 1) := by decide +kernel
theorem dL_law_1305 : decode cL_law 1305 = .ok (.iaload, 1) := by decide +kernel
theorem dL_law_1306 : decode cL_law 1306 = .ok (.aload_n 0, 1) := by decide +kernel
theorem dL_law_1307 : decode cL_law 1307 = .ok (.iload_n 3, 1) := by decide +kernel
theorem dL_law_1308 : decode cL_law 1308 = .ok (.iconst 3, 1) := by decide +kernel
theorem dL_law_1309 : decode cL_law 1309 = .ok (.iadd, 1) := by decide +kernel
theorem dL_law_1310 : decode cL_law 1310 = .ok (.iaload, 1) := by decide +kernel
theorem dL_law_1311 : decode cL_law 1311 = .ok (.aload_n 0, 1) := by decide +kernel
theorem dL_law_1312 : decode cL_law 1312 = .ok (.iload_n 3, 1) := by decide +kernel
theorem dL_law_1313 : decode cL_law 1313 = .ok (.iconst 4, 1) := by decide +kernel
theorem dL_law_1314 : decode cL_law 1314 = .ok (.iadd, 1) := by decide +kernel
theorem dL_law_1315 : decode cL_law 1315 = .ok (.iaload, 1) := by decide +kernel
theorem dL_law_1316 : decode cL_law 1316 = .ok (.invokevirtual 131, 3) := by decide +kernel
theorem dL_law_1319 : decode cL_law 1319 = .ok (.if_icmp .eq 160, 3) := by decide +kernel
theorem dL_law_1322 : decode cL_law 1322 = .ok (.iconst 0, 1) := by decide +kernel
theorem dL_law_1323 : decode cL_law 1323 = .ok (.ireturn, 1) := by decide +kernel
theorem dL_law_1324 : decode cL_law 1324 = .ok (.aload_n 1, 1) := by decide +kernel
theorem dL_law_1325 : decode cL_law 1325 = .ok (.aload_n 0, 1) := by decide +kernel
theorem dL_law_1326 : decode cL_law 1326 = .ok (.iload_n 3, 1) := by decide +kernel
theorem dL_law_1327 : decode cL_law 1327 = .ok (.iconst 1, 1) := by decide +kernel
theorem dL_law_1328 : decode cL_law 1328 = .ok (.iadd, 1) := by decide +kernel
theorem dL_law_1329 : decode cL_law 1329 = .ok (.iaload, 1) := by decide +kernel
theorem dL_law_1330 : decode cL_law 1330 = .ok (.aload_n 0, 1) := by decide +kernel
theorem dL_law_1331 : decode cL_law 1331 = .ok (.iload_n 3, 1) := by decide +kernel
theorem dL_law_1332 : decode cL_law 1332 = .ok (.iconst 2, 1) := by decide +kernel
theorem dL_law_1333 : decode cL_law 1333 = .ok (.iadd, 1) := by decide +kernel
theorem dL_law_1334 : decode cL_law 1334 = .ok (.iaload, 1) := by decide +kernel
theorem dL_law_1335 : decode cL_law 1335 = .ok (.aload_n 0, 1) := by decide +kernel
theorem dL_law_1336 : decode cL_law 1336 = .ok (.iload_n 3, 1) := by decide +kernel
theorem dL_law_1337 : decode cL_law 1337 = .ok (.iconst 3, 1) := by decide +kernel
theorem dL_law_1338 : decode cL_law 1338 = .ok (.iadd, 1) := by decide +kernel
theorem dL_law_1339 : decode cL_law 1339 = .ok (.iaload, 1) := by decide +kernel
theorem dL_law_1340 : decode cL_law 1340 = .ok (.aload_n 0, 1) := by decide +kernel
theorem dL_law_1341 : decode cL_law 1341 = .ok (.iload_n 3, 1) := by decide +kernel
theorem dL_law_1342 : decode cL_law 1342 = .ok (.iconst 4, 1) := by decide +kernel
theorem dL_law_1343 : decode cL_law 1343 = .ok (.iadd, 1) := by decide +kernel
theorem dL_law_1344 : decode cL_law 1344 = .ok (.iaload, 1) := by decide +kernel
theorem dL_law_1345 : decode cL_law 1345 = .ok (.invokevirtual 132, 3) := by decide +kernel
theorem dL_law_1348 : decode cL_law 1348 = .ok (.aload_n 2, 1) := by decide +kernel
theorem dL_law_1349 : decode cL_law 1349 = .ok (.aload_n 0, 1) := by decide +kernel
theorem dL_law_1350 : decode cL_law 1350 = .ok (.iload_n 3, 1) := by decide +kernel
theorem dL_law_1351 : decode cL_law 1351 = .ok (.iconst 1, 1) := by decide +kernel
theorem dL_law_1352 : decode cL_law 1352 = .ok (.iadd, 1) := by decide +kernel
theorem dL_law_1353 : decode cL_law 1353 = .ok (.iaload, 1) := by decide +kernel
theorem dL_law_1354 : decode cL_law 1354 = .ok (.aload_n 0, 1) := by decide +kernel
theorem dL_law_1355 : decode cL_law 1355 = .ok (.iload_n 3, 1) := by decide +kernel
theorem dL_law_1356 : decode cL_law 1356 = .ok (.iconst 2, 1) := by decide +kernel
theorem dL_law_1357 : decode cL_law 1357 = .ok (.iadd, 1) := by decide +kernel
theorem dL_law_1358 : decode cL_law 1358 = .ok (.iaload, 1) := by decide +kernel
theorem dL_law_1359 : decode cL_law 1359 = .ok (.aload_n 0, 1) := by decide +kernel
theorem dL_law_1360 : decode cL_law 1360 = .ok (.iload_n 3, 1) := by decide +kernel
theorem dL_law_1361 : decode cL_law 1361 = .ok (.iconst 3, 1) := by decide +kernel
theorem dL_law_1362 : decode cL_law 1362 = .ok (.iadd, 1) := by decide +kernel
theorem dL_law_1363 : decode cL_law 1363 = .ok (.iaload, 1) := by decide +kernel
theorem dL_law_1364 : decode cL_law 1364 = .ok (.aload_n 0, 1) := by decide +kernel
theorem dL_law_1365 : decode cL_law 1365 = .ok (.iload_n 3, 1) := by decide +kernel
theorem dL_law_1366 : decode cL_law 1366 = .ok (.iconst 4, 1) := by decide +kernel
theorem dL_law_1367 : decode cL_law 1367 = .ok (.iadd, 1) := by decide +kernel
theorem dL_law_1368 : decode cL_law 1368 = .ok (.iaload, 1) := by decide +kernel
theorem dL_law_1369 : decode cL_law 1369 = .ok (.invokevirtual 135, 3) := by decide +kernel
theorem dL_law_1372 : decode cL_law 1372 = .ok (.if_icmp .eq 107, 3) := by decide +kernel
theorem dL_law_1375 : decode cL_law 1375 = .ok (.iconst 0, 1) := by decide +kernel
theorem dL_law_1376 : decode cL_law 1376 = .ok (.ireturn, 1) := by decide +kernel
theorem dL_law_1377 : decode cL_law 1377 = .ok (.aload_n 1, 1) := by decide +kernel
theorem dL_law_1378 : decode cL_law 1378 = .ok (.aload_n 0, 1) := by decide +kernel
theorem dL_law_1379 : decode cL_law 1379 = .ok (.iload_n 3, 1) := by decide +kernel
theorem dL_law_1380 : decode cL_law 1380 = .ok (.iconst 1, 1) := by decide +kernel
theorem dL_law_1381 : decode cL_law 1381 = .ok (.iadd, 1) := by decide +kernel
theorem dL_law_1382 : decode cL_law 1382 = .ok (.iaload, 1) := by decide +kernel
theorem dL_law_1383 : decode cL_law 1383 = .ok (.aload_n 0, 1) := by decide +kernel
theorem dL_law_1384 : decode cL_law 1384 = .ok (.iload_n 3, 1) := by decide +kernel
theorem dL_law_1385 : decode cL_law 1385 = .ok (.iconst 2, 1) := by decide +kernel
theorem dL_law_1386 : decode cL_law 1386 = .ok (.iadd, 1) := by decide +kernel
theorem dL_law_1387 : decode cL_law 1387 = .ok (.iaload, 1) := by decide +kernel
theorem dL_law_1388 : decode cL_law 1388 = .ok (.invokevirtual 136, 3) := by decide +kernel
theorem dL_law_1391 : decode cL_law 1391 = .ok (.aload_n 2, 1) := by decide +kernel
theorem dL_law_1392 : decode cL_law 1392 = .ok (.aload_n 0, 1) := by decide +kernel
theorem dL_law_1393 : decode cL_law 1393 = .ok (.iload_n 3, 1) := by decide +kernel
theorem dL_law_1394 : decode cL_law 1394 = .ok (.iconst 1, 1) := by decide +kernel
theorem dL_law_1395 : decode cL_law 1395 = .ok (.iadd, 1) := by decide +kernel
theorem dL_law_1396 : decode cL_law 1396 = .ok (.iaload, 1) := by decide +kernel
theorem dL_law_1397 : decode cL_law 1397 = .ok (.aload_n 0, 1) := by decide +kernel
theorem dL_law_1398 : decode cL_law 1398 = .ok (.iload_n 3, 1) := by decide +kernel
theorem dL_law_1399 : decode cL_law 1399 = .ok (.iconst 2, 1) := by decide +kernel
theorem dL_law_1400 : decode cL_law 1400 = .ok (.iadd, 1) := by decide +kernel
theorem dL_law_1401 : decode cL_law 1401 = .ok (.iaload, 1) := by decide +kernel
theorem dL_law_1402 : decode cL_law 1402 = .ok (.invokevirtual 139, 3) := by decide +kernel
theorem dL_law_1405 : decode cL_law 1405 = .ok (.if_icmp .eq 74, 3) := by decide +kernel
theorem dL_law_1408 : decode cL_law 1408 = .ok (.iconst 0, 1) := by decide +kernel
theorem dL_law_1409 : decode cL_law 1409 = .ok (.ireturn, 1) := by decide +kernel
theorem dL_law_1410 : decode cL_law 1410 = .ok (.aload_n 1, 1) := by decide +kernel
theorem dL_law_1411 : decode cL_law 1411 = .ok (.aload_n 0, 1) := by decide +kernel
theorem dL_law_1412 : decode cL_law 1412 = .ok (.iload_n 3, 1) := by decide +kernel
theorem dL_law_1413 : decode cL_law 1413 = .ok (.iconst 1, 1) := by decide +kernel
theorem dL_law_1414 : decode cL_law 1414 = .ok (.iadd, 1) := by decide +kernel
theorem dL_law_1415 : decode cL_law 1415 = .ok (.iaload, 1) := by decide +kernel
theorem dL_law_1416 : decode cL_law 1416 = .ok (.invokevirtual 140, 3) := by decide +kernel
theorem dL_law_1419 : decode cL_law 1419 = .ok (.aload_n 2, 1) := by decide +kernel
theorem dL_law_1420 : decode cL_law 1420 = .ok (.aload_n 0, 1) := by decide +kernel
theorem dL_law_1421 : decode cL_law 1421 = .ok (.iload_n 3, 1) := by decide +kernel
theorem dL_law_1422 : decode cL_law 1422 = .ok (.iconst 1, 1) := by decide +kernel
theorem dL_law_1423 : decode cL_law 1423 = .ok (.iadd, 1) := by decide +kernel
theorem dL_law_1424 : decode cL_law 1424 = .ok (.iaload, 1) := by decide +kernel
theorem dL_law_1425 : decode cL_law 1425 = .ok (.invokevirtual 143, 3) := by decide +kernel
theorem dL_law_1428 : decode cL_law 1428 = .ok (.if_icmp .eq 51, 3) := by decide +kernel
theorem dL_law_1431 : decode cL_law 1431 = .ok (.iconst 0, 1) := by decide +kernel
theorem dL_law_1432 : decode cL_law 1432 = .ok (.ireturn, 1) := by decide +kernel
theorem dL_law_1433 : decode cL_law 1433 = .ok (.aload_n 1, 1) := by decide +kernel
theorem dL_law_1434 : decode cL_law 1434 = .ok (.aload_n 0, 1) := by decide +kernel
theorem dL_law_1435 : decode cL_law 1435 = .ok (.iload_n 3, 1) := by decide +kernel
theorem dL_law_1436 : decode cL_law 1436 = .ok (.iconst 1, 1) := by decide +kernel
theorem dL_law_1437 : decode cL_law 1437 = .ok (.iadd, 1) := by decide +kernel
theorem dL_law_1438 : decode cL_law 1438 = .ok (.iaload, 1) := by decide +kernel
theorem dL_law_1439 : decode cL_law 1439 = .ok (.invokevirtual 144, 3) := by decide +kernel
theorem dL_law_1442 : decode cL_law 1442 = .ok (.aload_n 2, 1) := by decide +kernel
theorem dL_law_1443 : decode cL_law 1443 = .ok (.aload_n 0, 1) := by decide +kernel
theorem dL_law_1444 : decode cL_law 1444 = .ok (.iload_n 3, 1) := by decide +kernel
theorem dL_law_1445 : decode cL_law 1445 = .ok (.iconst 1, 1) := by decide +kernel
theorem dL_law_1446 : decode cL_law 1446 = .ok (.iadd, 1) := by decide +kernel
theorem dL_law_1447 : decode cL_law 1447 = .ok (.iaload, 1) := by decide +kernel
theorem dL_law_1448 : decode cL_law 1448 = .ok (.invokevirtual 147, 3) := by decide +kernel
theorem dL_law_1451 : decode cL_law 1451 = .ok (.if_icmp .eq 28, 3) := by decide +kernel
theorem dL_law_1454 : decode cL_law 1454 = .ok (.iconst 0, 1) := by decide +kernel
theorem dL_law_1455 : decode cL_law 1455 = .ok (.ireturn, 1) := by decide +kernel
theorem dL_law_1456 : decode cL_law 1456 = .ok (.aload_n 1, 1) := by decide +kernel
theorem dL_law_1457 : decode cL_law 1457 = .ok (.aload_n 0, 1) := by decide +kernel
theorem dL_law_1458 : decode cL_law 1458 = .ok (.iload_n 3, 1) := by decide +kernel
theorem dL_law_1459 : decode cL_law 1459 = .ok (.iconst 1, 1) := by decide +kernel
theorem dL_law_1460 : decode cL_law 1460 = .ok (.iadd, 1) := by decide +kernel
theorem dL_law_1461 : decode cL_law 1461 = .ok (.iaload, 1) := by decide +kernel
theorem dL_law_1462 : decode cL_law 1462 = .ok (.invokevirtual 148, 3) := by decide +kernel
theorem dL_law_1465 : decode cL_law 1465 = .ok (.aload_n 2, 1) := by decide +kernel
theorem dL_law_1466 : decode cL_law 1466 = .ok (.aload_n 0, 1) := by decide +kernel
theorem dL_law_1467 : decode cL_law 1467 = .ok (.iload_n 3, 1) := by decide +kernel
theorem dL_law_1468 : decode cL_law 1468 = .ok (.iconst 1, 1) := by decide +kernel
theorem dL_law_1469 : decode cL_law 1469 = .ok (.iadd, 1) := by decide +kernel
theorem dL_law_1470 : decode cL_law 1470 = .ok (.iaload, 1) := by decide +kernel
theorem dL_law_1471 : decode cL_law 1471 = .ok (.invokevirtual 151, 3) := by decide +kernel
theorem dL_law_1474 : decode cL_law 1474 = .ok (.if_icmp .eq 5, 3) := by decide +kernel
theorem dL_law_1477 : decode cL_law 1477 = .ok (.iconst 0, 1) := by decide +kernel
theorem dL_law_1478 : decode cL_law 1478 = .ok (.ireturn, 1) := by decide +kernel
theorem dL_law_1479 : decode cL_law 1479 = .ok (.iinc 3 6, 3) := by decide +kernel
theorem dL_law_1482 : decode cL_law 1482 = .ok (.goto (-1464), 3) := by decide +kernel
theorem dL_law_1485 : decode cL_law 1485 = .ok (.iconst 1, 1) := by decide +kernel
theorem dL_law_1486 : decode cL_law 1486 = .ok (.ireturn, 1) := by decide +kernel
