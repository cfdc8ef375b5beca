theorem dX12_init_0 : decode cX12_init 0 = .ok (.aload_n 0, 1) := by decide +kernel
theorem dX12_init_1 : decode cX12_init 1 = .ok (.invokespecial 1, 3) := by decide +kernel
theorem dX12_init_4 : decode cX12_init 4 = .ok (.aload_n 0, 1) := by decide +kernel
theorem dX12_init_5 : decode cX12_init 5 = .ok (.iconst 4, 1) := by decide +kernel
theorem dX12_init_6 : decode cX12_init 6 = .ok (.newarray .int, 2) := by decide +kernel
theorem dX12_init_8 : decode cX12_init 8 = .ok (.putfield 7, 3) := by decide +kernel
theorem dX12_init_11 : decode cX12_init 11 = .ok (.aload_n 0, 1) := by decide +kernel
theorem dX12_init_12 : decode cX12_init 12 = .ok (.iconst 4, 1) := by decide +kernel
theorem dX12_init_13 : decode cX12_init 13 = .ok (.newarray .int, 2) := by decide +kernel
theorem dX12_init_15 : decode cX12_init 15 = .ok (.putfield 13, 3) := by decide +kernel
theorem dX12_init_18 : decode cX12_init 18 = .ok (.aload_n 0, 1) := by decide +kernel
theorem dX12_init_19 : decode cX12_init 19 = .ok (.sipush 240, 3) := by decide +kernel
theorem dX12_init_22 : decode cX12_init 22 = .ok (.newarray .int, 2) := by decide +kernel
theorem dX12_init_24 : decode cX12_init 24 = .ok (.putfield 16, 3) := by decide +kernel
theorem dX12_init_27 : decode cX12_init 27 = .ok (.aload_n 0, 1) := by decide +kernel
theorem dX12_init_28 : decode cX12_init 28 = .ok (.bipush 60, 2) := by decide +kernel
theorem dX12_init_30 : decode cX12_init 30 = .ok (.newarray .int, 2) := by decide +kernel
theorem dX12_init_32 : decode cX12_init 32 = .ok (.putfield 19, 3) := by decide +kernel
theorem dX12_init_35 : decode cX12_init 35 = .ok (.aload_n 0, 1) := by decide +kernel
theorem dX12_init_36 : decode cX12_init 36 = .ok (.bipush 8, 2) := by decide +kernel
theorem dX12_init_38 : decode cX12_init 38 = .ok (.newarray .int, 2) := by decide +kernel
theorem dX12_init_40 : decode cX12_init 40 = .ok (.putfield 22, 3) := by decide +kernel
theorem dX12_init_43 : decode cX12_init 43 = .ok (.aload_n 0, 1) := by decide +kernel
theorem dX12_init_44 : decode cX12_init 44 = .ok (.bipush 20, 2) := by decide +kernel
theorem dX12_init_46 : decode cX12_init 46 = .ok (.newarray .int, 2) := by decide +kernel
theorem dX12_init_48 : decode cX12_init 48 = .ok (.putfield 25, 3) := by decide +kernel
theorem dX12_init_51 : decode cX12_init 51 = .ok (.aload_n 0, 1) := by decide +kernel
theorem dX12_init_52 : decode cX12_init 52 = .ok (.bipush 20, 2) := by decide +kernel
theorem dX12_init_54 : decode cX12_init 54 = .ok (.newarray .int, 2) := by decide +kernel
theorem dX12_init_56 : decode cX12_init 56 = .ok (.putfield 28, 3) := by decide +kernel
theorem dX12_init_59 : decode cX12_init 59 = .ok (.aload_n 0, 1) := by decide +kernel
theorem dX12_init_60 : decode cX12_init 60 = .ok (.bipush 20, 2) := by decide +kernel
theorem dX12_init_62 : decode cX12_init 62 = .ok (.newarray .int, 2) := by decide +kernel
theorem dX12_init_64 : decode cX12_init 64 = .ok (.putfield 31, 3) := by decide +kernel
theorem dX12_init_67 : decode cX12_init 67 = .ok (.aload_n 0, 1) := by decide +kernel
theorem dX12_init_68 : decode cX12_init 68 = .ok (.bipush 20, 2) := by decide +kernel
theorem dX12_init_70 : decode cX12_init 70 = .ok (.newarray .int, 2) := by decide +kernel
theorem dX12_init_72 : decode cX12_init 72 = .ok (.putfield 34, 3) := by decide +kernel
theorem dX12_init_75 : decode cX12_init 75 = .ok (.aload_n 0, 1) := by decide +kernel
theorem dX12_init_76 : decode cX12_init 76 = .ok (.bipush 100, 2) := by decide +kernel
theorem dX12_init_78 : decode cX12_init 78 = .ok (.newarray .int, 2) := by decide +kernel
theorem dX12_init_80 : decode cX12_init 80 = .ok (.putfield 37, 3) := by decide +kernel
theorem dX12_init_83 : decode cX12_init 83 = .ok (.aload_n 0, 1) := by decide +kernel
theorem dX12_init_84 : decode cX12_init 84 = .ok (.bipush 20, 2) := by decide +kernel
theorem dX12_init_86 : decode cX12_init 86 = .ok (.newarray .int, 2) := by decide +kernel
theorem dX12_init_88 : decode cX12_init 88 = .ok (.putfield 40, 3) := by decide +kernel
theorem dX12_init_91 : decode cX12_init 91 = .ok (.aload_n 0, 1) := by decide +kernel
theorem dX12_init_92 : decode cX12_init 92 = .ok (.bipush 20, 2) := by decide +kernel
theorem dX12_init_94 : decode cX12_init 94 = .ok (.newarray .int, 2) := by decide +kernel
theorem dX12_init_96 : decode cX12_init 96 = .ok (.putfield 43, 3) := by decide +kernel
theorem dX12_init_99 : decode cX12_init 99 = .ok (.aload_n 0, 1) := by decide +kernel
theorem dX12_init_100 : decode cX12_init 100 = .ok (.bipush 20, 2) := by decide +kernel
theorem dX12_init_102 : decode cX12_init 102 = .ok (.newarray .int, 2) := by decide +kernel
theorem dX12_init_104 : decode cX12_init 104 = .ok (.putfield 46, 3) := by decide +kernel
theorem dX12_init_107 : decode cX12_init 107 = .ok (.aload_n 0, 1) := by decide +kernel
theorem dX12_init_108 : decode cX12_init 108 = .ok (.bipush 20, 2) := by decide +kernel
theorem dX12_init_110 : decode cX12_init 110 = .ok (.newarray .int, 2) := by decide +kernel
theorem dX12_init_112 : decode cX12_init 112 = .ok (.putfield 49, 3) := by decide +kernel
theorem dX12_init_115 : decode cX12_init 115 = .ok (.aload_n 0, 1) := by decide +kernel
theorem dX12_init_116 : decode cX12_init 116 = .ok (.sipush 320, 3) := by decide +kernel
theorem dX12_init_119 : decode cX12_init 119 = .ok (.newarray .int, 2) := by decide +kernel
theorem dX12_init_121 : decode cX12_init 121 = .ok (.putfield 52, 3) := by decide +kernel
theorem dX12_init_124 : decode cX12_init 124 = .ok (.aload_n 0, 1) := by decide +kernel
theorem dX12_init_125 : decode cX12_init 125 = .ok (.sipush 320, 3) := by decide +kernel
theorem dX12_init_128 : decode cX12_init 128 = .ok (.newarray .int, 2) := by decide +kernel
theorem dX12_init_130 : decode cX12_init 130 = .ok (.putfield 55, 3) := by decide +kernel
theorem dX12_init_133 : decode cX12_init 133 = .ok (.aload_n 0, 1) := by decide +kernel
theorem dX12_init_134 : decode cX12_init 134 = .ok (.bipush 100, 2) := by decide +kernel
theorem dX12_init_136 : decode cX12_init 136 = .ok (.newarray .int, 2) := by decide +kernel
theorem dX12_init_138 : decode cX12_init 138 = .ok (.putfield 58, 3) := by decide +kernel
theorem dX12_init_141 : decode cX12_init 141 = .ok (.aload_n 0, 1) := by decide +kernel
theorem dX12_init_142 : decode cX12_init 142 = .ok (.bipush 40, 2) := by decide +kernel
theorem dX12_init_144 : decode cX12_init 144 = .ok (.newarray .int, 2) := by decide +kernel
theorem dX12_init_146 : decode cX12_init 146 = .ok (.putfield 61, 3) := by decide +kernel
theorem dX12_init_149 : decode cX12_init 149 = .ok (.aload_n 0, 1) := by decide +kernel
theorem dX12_init_150 : decode cX12_init 150 = .ok (.bipush 40, 2) := by decide +kernel
theorem dX12_init_152 : decode cX12_init 152 = .ok (.newarray .int, 2) := by decide +kernel
theorem dX12_init_154 : decode cX12_init 154 = .ok (.putfield 64, 3) := by decide +kernel
theorem dX12_init_157 : decode cX12_init 157 = .ok (.aload_n 0, 1) := by decide +kernel
theorem dX12_init_158 : decode cX12_init 158 = .ok (.bipush 40, 2) := by decide +kernel
theorem dX12_init_160 : decode cX12_init 160 = .ok (.newarray .int, 2) := by decide +kernel
theorem dX12_init_162 : decode cX12_init 162 = .ok (.putfield 67, 3) := by decide +kernel
theorem dX12_init_165 : decode cX12_init 165 = .ok (.aload_n 0, 1) := by decide +kernel
theorem dX12_init_166 : decode cX12_init 166 = .ok (.bipush 40, 2) := by decide +kernel
theorem dX12_init_168 : decode cX12_init 168 = .ok (.newarray .int, 2) := by decide +kernel
theorem dX12_init_170 : decode cX12_init 170 = .ok (.putfield 70, 3) := by decide +kernel
theorem dX12_init_173 : decode cX12_init 173 = .ok (.aload_n 0, 1) := by decide +kernel
theorem dX12_init_174 : decode cX12_init 174 = .ok (.bipush 40, 2) := by decide +kernel
theorem dX12_init_176 : decode cX12_init 176 = .ok (.newarray .int, 2) := by decide +kernel
theorem dX12_init_178 : decode cX12_init 178 = .ok (.putfield 73, 3) := by decide +kernel
theorem dX12_init_181 : decode cX12_init 181 = .ok (.aload_n 0, 1) := by decide +kernel
theorem dX12_init_182 : decode cX12_init 182 = .ok (.bipush 8, 2) := by decide +kernel
theorem dX12_init_184 : decode cX12_init 184 = .ok (.newarray .int, 2) := by decide +kernel
theorem dX12_init_186 : decode cX12_init 186 = .ok (.putfield 76, 3) := by decide +kernel
theorem dX12_init_189 : decode cX12_init 189 = .ok (.aload_n 0, 1) := by decide +kernel
theorem dX12_init_190 : decode cX12_init 190 = .ok (.bipush 8, 2) := by decide +kernel
theorem dX12_init_192 : decode cX12_init 192 = .ok (.newarray .int, 2) := by decide +kernel
theorem dX12_init_194 : decode cX12_init 194 = .ok (.putfield 79, 3) := by decide +kernel
theorem dX12_init_197 : decode cX12_init 197 = .ok (.aload_n 0, 1) := by decide +kernel
theorem dX12_init_198 : decode cX12_init 198 = .ok (.bipush 8, 2) := by decide +kernel
theorem dX12_init_200 : decode cX12_init 200 = .ok (.newarray .int, 2) := by decide +kernel
theorem dX12_init_202 : decode cX12_init 202 = .ok (.putfield 82, 3) := by decide +kernel
theorem dX12_init_205 : decode cX12_init 205 = .ok (.aload_n 0, 1) := by decide +kernel
theorem dX12_init_206 : decode cX12_init 206 = .ok (.sipush 256, 3) := by decide +kernel
theorem dX12_init_209 : decode cX12_init 209 = .ok (.newarray .int, 2) := by decide +kernel
theorem dX12_init_211 : decode cX12_init 211 = .ok (.putfield 85, 3) := by decide +kernel
theorem dX12_init_214 : decode cX12_init 214 = .ok (.aload_n 0, 1) := by decide +kernel
theorem dX12_init_215 : decode cX12_init 215 = .ok (.bipush 8, 2) := by decide +kernel
theorem dX12_init_217 : decode cX12_init 217 = .ok (.newarray .int, 2) := by decide +kernel
theorem dX12_init_219 : decode cX12_init 219 = .ok (.putfield 88, 3) := by decide +kernel
theorem dX12_init_222 : decode cX12_init 222 = .ok (.aload_n 0, 1) := by decide +kernel
theorem dX12_init_223 : decode cX12_init 223 = .ok (.bipush 20, 2) := by decide +kernel
theorem dX12_init_225 : decode cX12_init 225 = .ok (.putfield 91, 3) := by decide +kernel
theorem dX12_init_228 : decode cX12_init 228 = .ok (.aload_n 0, 1) := by decide +kernel
theorem dX12_init_229 : decode cX12_init 229 = .ok (.sipush 2741, 3) := by decide +kernel
theorem dX12_init_232 : decode cX12_init 232 = .ok (.putfield 95, 3) := by decide +kernel
theorem dX12_init_235 : decode cX12_init 235 = .ok (.aload_n 0, 1) := by decide +kernel
theorem dX12_init_236 : decode cX12_init 236 = .ok (.bipush 6, 2) := by decide +kernel
theorem dX12_init_238 : decode cX12_init 238 = .ok (.newarray .int, 2) := by decide +kernel
theorem dX12_init_240 : decode cX12_init 240 = .ok (.putfield 98, 3) := by decide +kernel
theorem dX12_init_243 : decode cX12_init 243 = .ok (.aload_n 0, 1) := by decide +kernel
theorem dX12_init_244 : decode cX12_init 244 = .ok (.bipush 6, 2) := by decide +kernel
theorem dX12_init_246 : decode cX12_init 246 = .ok (.newarray .int, 2) := by decide +kernel
theorem dX12_init_248 : decode cX12_init 248 = .ok (.putfield 101, 3) := by decide +kernel
theorem dX12_init_251 : decode cX12_init 251 = .ok (.aload_n 0, 1) := by decide +kernel
theorem dX12_init_252 : decode cX12_init 252 = .ok (.bipush 6, 2) := by decide +kernel
theorem dX12_init_254 : decode cX12_init 254 = .ok (.newarray .int, 2) := by decide +kernel
theorem dX12_init_256 : decode cX12_init 256 = .ok (.putfield 104, 3) := by decide +kernel
theorem dX12_init_259 : decode cX12_init 259 = .ok (.aload_n 0, 1) := by decide +kernel
theorem dX12_init_260 : decode cX12_init 260 = .ok (.bipush 6, 2) := by decide +kernel
theorem dX12_init_262 : decode cX12_init 262 = .ok (.newarray .int, 2) := by decide +kernel
theorem dX12_init_264 : decode cX12_init 264 = .ok (.putfield 107, 3) := by decide +kernel
theorem dX12_init_267 : decode cX12_init 267 = .ok (.aload_n 0, 1) := by decide +kernel
theorem dX12_init_268 : decode cX12_init 268 = .ok (.bipush 6, 2) := by decide +kernel
theorem dX12_init_270 : decode cX12_init 270 = .ok (.newarray .int, 2) := by decide +kernel
theorem dX12_init_272 : decode cX12_init 272 = .ok (.putfield 110, 3) := by decide +kernel
theorem dX12_init_275 : decode cX12_init 275 = .ok (.aload_n 0, 1) := by decide +kernel
theorem dX12_init_276 : decode cX12_init 276 = .ok (.bipush 20, 2) := by decide +kernel
theorem dX12_init_278 : decode cX12_init 278 = .ok (.newarray .int, 2) := by decide +kernel
theorem dX12_init_280 : decode cX12_init 280 = .ok (.putfield 113, 3) := by decide +kernel
theorem dX12_init_283 : decode cX12_init 283 = .ok (.aload_n 0, 1) := by decide +kernel
theorem dX12_init_284 : decode cX12_init 284 = .ok (.bipush 10, 2) := by decide +kernel
theorem dX12_init_286 : decode cX12_init 286 = .ok (.newarray .int, 2) := by decide +kernel
theorem dX12_init_288 : decode cX12_init 288 = .ok (.putfield 116, 3) := by decide +kernel
theorem dX12_init_291 : decode cX12_init 291 = .ok (.aload_n 0, 1) := by decide +kernel
theorem dX12_init_292 : decode cX12_init 292 = .ok (.bipush 30, 2) := by decide +kernel
theorem dX12_init_294 : decode cX12_init 294 = .ok (.newarray .int, 2) := by decide +kernel
theorem dX12_init_296 : decode cX12_init 296 = .ok (.putfield 119, 3) := by decide +kernel
theorem dX12_init_299 : decode cX12_init 299 = .ok (.aload_n 0, 1) := by decide +kernel
theorem dX12_init_300 : decode cX12_init 300 = .ok (.bipush 30, 2) := by decide +kernel
theorem dX12_init_302 : decode cX12_init 302 = .ok (.newarray .int, 2) := by decide +kernel
theorem dX12_init_304 : decode cX12_init 304 = .ok (.putfield 122, 3) := by decide +kernel
theorem dX12_init_307 : decode cX12_init 307 = .ok (.aload_n 0, 1) := by decide +kernel
theorem dX12_init_308 : decode cX12_init 308 = .ok (.bipush 30, 2) := by decide +kernel
theorem dX12_init_310 : decode cX12_init 310 = .ok (.newarray .int, 2) := by decide +kernel
theorem dX12_init_312 : decode cX12_init 312 = .ok (.putfield 125, 3) := by decide +kernel
theorem dX12_init_315 : decode cX12_init 315 = .ok (.aload_n 0, 1) := by decide +kernel
theorem dX12_init_316 : decode cX12_init 316 = .ok (.bipush 30, 2) := by decide +kernel
theorem dX12_init_318 : decode cX12_init 318 = .ok (.newarray .int, 2) := by decide +kernel
theorem dX12_init_320 : decode cX12_init 320 = .ok (.putfield 128, 3) := by decide +kernel
theorem dX12_init_323 : decode cX12_init 323 = .ok (.aload_n 0, 1) := by decide +kernel
theorem dX12_init_324 : decode cX12_init 324 = .ok (.iconst 5, 1) := by decide +kernel
theorem dX12_init_325 : decode cX12_init 325 = .ok (.newarray .int, 2) := by decide +kernel
theorem dX12_init_327 : decode cX12_init 327 = .ok (.putfield 131, 3) := by decide +kernel
theorem dX12_init_330 : decode cX12_init 330 = .ok (.iconst 0, 1) := by decide +kernel
theorem dX12_init_331 : decode cX12_init 331 = .ok (.istore_n 1, 1) := by decide +kernel
theorem dX12_init_332 : decode cX12_init 332 = .ok (.iload_n 1, 1) := by decide +kernel
theorem dX12_init_333 : decode cX12_init 333 = .ok (.iconst 4, 1) := by decide +kernel
theorem dX12_init_334 : decode cX12_init 334 = .ok (.if_icmp .ge 16, 3) := by decide +kernel
theorem dX12_init_337 : decode cX12_init 337 = .ok (.aload_n 0, 1) := by decide +kernel
theorem dX12_init_338 : decode cX12_init 338 = .ok (.getfield 7, 3) := by decide +kernel
theorem dX12_init_341 : decode cX12_init 341 = .ok (.iload_n 1, 1) := by decide +kernel
theorem dX12_init_342 : decode cX12_init 342 = .ok (.iconst (-1), 1) := by decide +kernel
theorem dX12_init_343 : decode cX12_init 343 = .ok (.iastore, 1) := by decide +kernel
theorem dX12_init_344 : decode cX12_init 344 = .ok (.iinc 1 1, 3) := by decide +kernel
theorem dX12_init_347 : decode cX12_init 347 = .ok (.goto (-15), 3) := by decide +kernel
theorem dX12_init_350 : decode cX12_init 350 = .ok (.iconst 0, 1) := by decide +kernel
theorem dX12_init_351 : decode cX12_init 351 = .ok (.istore_n 1, 1) := by decide +kernel
theorem dX12_init_352 : decode cX12_init 352 = .ok (.iload_n 1, 1) := by decide +kernel
theorem dX12_init_353 : decode cX12_init 353 = .ok (.iconst 5, 1) := by decide +kernel
theorem dX12_init_354 : decode cX12_init 354 = .ok (.if_icmp .ge 16, 3) := by decide +kernel
theorem dX12_init_357 : decode cX12_init 357 = .ok (.aload_n 0, 1) := by decide +kernel
theorem dX12_init_358 : decode cX12_init 358 = .ok (.getfield 131, 3) := by decide +kernel
theorem dX12_init_361 : decode cX12_init 361 = .ok (.iload_n 1, 1) := by decide +kernel
theorem dX12_init_362 : decode cX12_init 362 = .ok (.iload_n 1, 1) := by decide +kernel
theorem dX12_init_363 : decode cX12_init 363 = .ok (.iastore, 1) := by decide +kernel
theorem dX12_init_364 : decode cX12_init 364 = .ok (.iinc 1 1, 3) := by decide +kernel
theorem dX12_init_367 : decode cX12_init 367 = .ok (.goto (-15), 3) := by decide +kernel
theorem dX12_init_370 : decode cX12_init 370 = .ok (.return_, 1) := by decide +kernel
theorem dX12_in_0 : decode cX12_in 0 = .ok (.lload_n 0, 1) := by decide +kernel
theorem dX12_in_1 : decode cX12_in 1 = .ok (.lload_n 2, 1) := by decide +kernel
theorem dX12_in_2 : decode cX12_in 2 = .ok (.lcmp, 1) := by decide +kernel
theorem dX12_in_3 : decode cX12_in 3 = .ok (.ifCond .lt 14, 3) := by decide +kernel
theorem dX12_in_6 : decode cX12_in 6 = .ok (.lload_n 0, 1) := by decide +kernel
theorem dX12_in_7 : decode cX12_in 7 = .ok (.lload 4, 2) := by decide +kernel
theorem dX12_in_9 : decode cX12_in 9 = .ok (.lcmp, 1) := by decide +kernel
theorem dX12_in_10 : decode cX12_in 10 = .ok (.ifCond .gt 7, 3) := by decide +kernel
theorem dX12_in_13 : decode cX12_in 13 = .ok (.iconst 1, 1) := by decide +kernel
theorem dX12_in_14 : decode cX12_in 14 = .ok (.goto 4, 3) := by decide +kernel
theorem dX12_in_17 : decode cX12_in 17 = .ok (.iconst 0, 1) := by decide +kernel
theorem dX12_in_18 : decode cX12_in 18 = .ok (.ireturn, 1) := by decide +kernel
theorem dX12_met_0 : decode cX12_met 0 = .ok (.aload_n 0, 1) := by decide +kernel
theorem dX12_met_1 : decode cX12_met 1 = .ok (.iload_n 1, 1) := by decide +kernel
theorem dX12_met_2 : decode cX12_met 2 = .ok (.putfield 134, 3) := by decide +kernel
theorem dX12_met_5 : decode cX12_met 5 = .ok (.bipush (-10), 2) := by decide +kernel
theorem dX12_met_7 : decode cX12_met 7 = .ok (.iload_n 1, 1) := by decide +kernel
theorem dX12_met_8 : decode cX12_met 8 = .ok (.isub, 1) := by decide +kernel
theorem dX12_met_9 : decode cX12_met 9 = .ok (.ireturn, 1) := by decide +kernel
theorem dX12_isSheet_0 : decode cX12_isSheet 0 = .ok (.iload_n 0, 1) := by decide +kernel
theorem dX12_isSheet_1 : decode cX12_isSheet 1 = .ok (.i2l, 1) := by decide +kernel
theorem dX12_isSheet_2 : decode cX12_isSheet 2 = .ok (.lconst 0, 1) := by decide +kernel
theorem dX12_isSheet_3 : decode cX12_isSheet 3 = .ok (.ldc2_w 137, 3) := by decide +kernel
theorem dX12_isSheet_6 : decode cX12_isSheet 6 = .ok (.invokestatic 139, 3) := by decide +kernel
theorem dX12_isSheet_9 : decode cX12_isSheet 9 = .ok (.ireturn, 1) := by decide +kernel
theorem dX12_sheet_0 : decode cX12_sheet 0 = .ok (.iload_n 1, 1) := by decide +kernel
theorem dX12_sheet_1 : decode cX12_sheet 1 = .ok (.invokestatic 143, 3) := by decide +kernel
theorem dX12_sheet_4 : decode cX12_sheet 4 = .ok (.ifCond .eq 21, 3) := by decide +kernel
theorem dX12_sheet_7 : decode cX12_sheet 7 = .ok (.iload_n 2, 1) := by decide +kernel
theorem dX12_sheet_8 : decode cX12_sheet 8 = .ok (.i2l, 1) := by decide +kernel
theorem dX12_sheet_9 : decode cX12_sheet 9 = .ok (.lconst 0, 1) := by decide +kernel
theorem dX12_sheet_10 : decode cX12_sheet 10 = .ok (.ldc2_w 147, 3) := by decide +kernel
theorem dX12_sheet_13 : decode cX12_sheet 13 = .ok (.invokestatic 139, 3) := by decide +kernel
theorem dX12_sheet_16 : decode cX12_sheet 16 = .ok (.ifCond .eq 9, 3) := by decide +kernel
theorem dX12_sheet_19 : decode cX12_sheet 19 = .ok (.iload_n 3, 1) := by decide +kernel
theorem dX12_sheet_20 : decode cX12_sheet 20 = .ok (.bipush 60, 2) := by decide +kernel
theorem dX12_sheet_22 : decode cX12_sheet 22 = .ok (.if_icmp .le 6, 3) := by decide +kernel
theorem dX12_sheet_25 : decode cX12_sheet 25 = .ok (.bipush (-2), 2) := by decide +kernel
theorem dX12_sheet_27 : decode cX12_sheet 27 = .ok (.ireturn, 1) := by decide +kernel
theorem dX12_sheet_28 : decode cX12_sheet 28 = .ok (.iload_n 3, 1) := by decide +kernel
theorem dX12_sheet_29 : decode cX12_sheet 29 = .ok (.ifCond .ge 9, 3) := by decide +kernel
theorem dX12_sheet_32 : decode cX12_sheet 32 = .ok (.aload_n 0, 1) := by decide +kernel
theorem dX12_sheet_33 : decode cX12_sheet 33 = .ok (.iconst 5, 1) := by decide +kernel
theorem dX12_sheet_34 : decode cX12_sheet 34 = .ok (.invokevirtual 149, 3) := by decide +kernel
theorem dX12_sheet_37 : decode cX12_sheet 37 = .ok (.ireturn, 1) := by decide +kernel
theorem dX12_sheet_38 : decode cX12_sheet 38 = .ok (.aload_n 0, 1) := by decide +kernel
theorem dX12_sheet_39 : decode cX12_sheet 39 = .ok (.getfield 7, 3) := by decide +kernel
theorem dX12_sheet_42 : decode cX12_sheet 42 = .ok (.iload_n 1, 1) := by decide +kernel
theorem dX12_sheet_43 : decode cX12_sheet 43 = .ok (.iload_n 2, 1) := by decide +kernel
theorem dX12_sheet_44 : decode cX12_sheet 44 = .ok (.iastore, 1) := by decide +kernel
theorem dX12_sheet_45 : decode cX12_sheet 45 = .ok (.aload_n 0, 1) := by decide +kernel
theorem dX12_sheet_46 : decode cX12_sheet 46 = .ok (.getfield 13, 3) := by decide +kernel
theorem dX12_sheet_49 : decode cX12_sheet 49 = .ok (.iload_n 1, 1) := by decide +kernel
theorem dX12_sheet_50 : decode cX12_sheet 50 = .ok (.iload_n 3, 1) := by decide +kernel
theorem dX12_sheet_51 : decode cX12_sheet 51 = .ok (.iastore, 1) := by decide +kernel
theorem dX12_sheet_52 : decode cX12_sheet 52 = .ok (.iconst 0, 1) := by decide +kernel
theorem dX12_sheet_53 : decode cX12_sheet 53 = .ok (.istore 4, 2) := by decide +kernel
theorem dX12_sheet_55 : decode cX12_sheet 55 = .ok (.iload 4, 2) := by decide +kernel
theorem dX12_sheet_57 : decode cX12_sheet 57 = .ok (.iload_n 3, 1) := by decide +kernel
theorem dX12_sheet_58 : decode cX12_sheet 58 = .ok (.if_icmp .ge 22, 3) := by decide +kernel
theorem dX12_sheet_61 : decode cX12_sheet 61 = .ok (.aload_n 0, 1) := by decide +kernel
theorem dX12_sheet_62 : decode cX12_sheet 62 = .ok (.getfield 16, 3) := by decide +kernel
theorem dX12_sheet_65 : decode cX12_sheet 65 = .ok (.bipush 60, 2) := by decide +kernel
theorem dX12_sheet_67 : decode cX12_sheet 67 = .ok (.iload_n 1, 1) := by decide +kernel
theorem dX12_sheet_68 : decode cX12_sheet 68 = .ok (.imul, 1) := by decide +kernel
theorem dX12_sheet_69 : decode cX12_sheet 69 = .ok (.iload 4, 2) := by decide +kernel
theorem dX12_sheet_71 : decode cX12_sheet 71 = .ok (.iadd, 1) := by decide +kernel
theorem dX12_sheet_72 : decode cX12_sheet 72 = .ok (.iconst 0, 1) := by decide +kernel
theorem dX12_sheet_73 : decode cX12_sheet 73 = .ok (.iastore, 1) := by decide +kernel
theorem dX12_sheet_74 : decode cX12_sheet 74 = .ok (.iinc 4 1, 3) := by decide +kernel
theorem dX12_sheet_77 : decode cX12_sheet 77 = .ok (.goto (-22), 3) := by decide +kernel
theorem dX12_sheet_80 : decode cX12_sheet 80 = .ok (.iload_n 3, 1) := by decide +kernel
theorem dX12_sheet_81 : decode cX12_sheet 81 = .ok (.ireturn, 1) := by decide +kernel
theorem dX12_lose_0 : decode cX12_lose 0 = .ok (.iload_n 1, 1) := by decide +kernel
theorem dX12_lose_1 : decode cX12_lose 1 = .ok (.invokestatic 143, 3) := by decide +kernel
theorem dX12_lose_4 : decode cX12_lose 4 = .ok (.ifCond .ne 6, 3) := by decide +kernel
theorem dX12_lose_7 : decode cX12_lose 7 = .ok (.bipush (-2), 2) := by decide +kernel
theorem dX12_lose_9 : decode cX12_lose 9 = .ok (.ireturn, 1) := by decide +kernel
theorem dX12_lose_10 : decode cX12_lose 10 = .ok (.aload_n 0, 1) := by decide +kernel
theorem dX12_lose_11 : decode cX12_lose 11 = .ok (.getfield 7, 3) := by decide +kernel
theorem dX12_lose_14 : decode cX12_lose 14 = .ok (.iload_n 1, 1) := by decide +kernel
theorem dX12_lose_15 : decode cX12_lose 15 = .ok (.iaload, 1) := by decide +kernel
theorem dX12_lose_16 : decode cX12_lose 16 = .ok (.ifCond .ge 9, 3) := by decide +kernel
theorem dX12_lose_19 : decode cX12_lose 19 = .ok (.aload_n 0, 1) := by decide +kernel
theorem dX12_lose_20 : decode cX12_lose 20 = .ok (.iconst 1, 1) := by decide +kernel
theorem dX12_lose_21 : decode cX12_lose 21 = .ok (.invokevirtual 149, 3) := by decide +kernel
theorem dX12_lose_24 : decode cX12_lose 24 = .ok (.ireturn, 1) := by decide +kernel
theorem dX12_lose_25 : decode cX12_lose 25 = .ok (.aload_n 0, 1) := by decide +kernel
theorem dX12_lose_26 : decode cX12_lose 26 = .ok (.getfield 7, 3) := by decide +kernel
theorem dX12_lose_29 : decode cX12_lose 29 = .ok (.iload_n 1, 1) := by decide +kernel
theorem dX12_lose_30 : decode cX12_lose 30 = .ok (.iconst (-1), 1) := by decide +kernel
theorem dX12_lose_31 : decode cX12_lose 31 = .ok (.iastore, 1) := by decide +kernel
theorem dX12_lose_32 : decode cX12_lose 32 = .ok (.aload_n 0, 1) := by decide +kernel
theorem dX12_lose_33 : decode cX12_lose 33 = .ok (.getfield 13, 3) := by decide +kernel
theorem dX12_lose_36 : decode cX12_lose 36 = .ok (.iload_n 1, 1) := by decide +kernel
theorem dX12_lose_37 : decode cX12_lose 37 = .ok (.iaload, 1) := by decide +kernel
theorem dX12_lose_38 : decode cX12_lose 38 = .ok (.ireturn, 1) := by decide +kernel
theorem dX12_lacks_0 : decode cX12_lacks 0 = .ok (.aload_n 0, 1) := by decide +kernel
theorem dX12_lacks_1 : decode cX12_lacks 1 = .ok (.getfield 7, 3) := by decide +kernel
theorem dX12_lacks_4 : decode cX12_lacks 4 = .ok (.iload_n 1, 1) := by decide +kernel
theorem dX12_lacks_5 : decode cX12_lacks 5 = .ok (.iaload, 1) := by decide +kernel
theorem dX12_lacks_6 : decode cX12_lacks 6 = .ok (.ifCond .ge 9, 3) := by decide +kernel
theorem dX12_lacks_9 : decode cX12_lacks 9 = .ok (.aload_n 0, 1) := by decide +kernel
theorem dX12_lacks_10 : decode cX12_lacks 10 = .ok (.iconst 1, 1) := by decide +kernel
theorem dX12_lacks_11 : decode cX12_lacks 11 = .ok (.invokevirtual 149, 3) := by decide +kernel
theorem dX12_lacks_14 : decode cX12_lacks 14 = .ok (.ireturn, 1) := by decide +kernel
theorem dX12_lacks_15 : decode cX12_lacks 15 = .ok (.aload_n 0, 1) := by decide +kernel
theorem dX12_lacks_16 : decode cX12_lacks 16 = .ok (.getfield 7, 3) := by decide +kernel
theorem dX12_lacks_19 : decode cX12_lacks 19 = .ok (.iload_n 1, 1) := by decide +kernel
theorem dX12_lacks_20 : decode cX12_lacks 20 = .ok (.iaload, 1) := by decide +kernel
theorem dX12_lacks_21 : decode cX12_lacks 21 = .ok (.iload_n 2, 1) := by decide +kernel
theorem dX12_lacks_22 : decode cX12_lacks 22 = .ok (.if_icmp .eq 9, 3) := by decide +kernel
theorem dX12_lacks_25 : decode cX12_lacks 25 = .ok (.aload_n 0, 1) := by decide +kernel
theorem dX12_lacks_26 : decode cX12_lacks 26 = .ok (.iconst 3, 1) := by decide +kernel
theorem dX12_lacks_27 : decode cX12_lacks 27 = .ok (.invokevirtual 149, 3) := by decide +kernel
theorem dX12_lacks_30 : decode cX12_lacks 30 = .ok (.ireturn, 1) := by decide +kernel
theorem dX12_lacks_31 : decode cX12_lacks 31 = .ok (.iload_n 3, 1) := by decide +kernel
theorem dX12_lacks_32 : decode cX12_lacks 32 = .ok (.i2l, 1) := by decide +kernel
theorem dX12_lacks_33 : decode cX12_lacks 33 = .ok (.lconst 0, 1) := by decide +kernel
theorem dX12_lacks_34 : decode cX12_lacks 34 = .ok (.aload_n 0, 1) := by decide +kernel
theorem dX12_lacks_35 : decode cX12_lacks 35 = .ok (.getfield 13, 3) := by decide +kernel
theorem dX12_lacks_38 : decode cX12_lacks 38 = .ok (.iload_n 1, 1) := by decide +kernel
theorem dX12_lacks_39 : decode cX12_lacks 39 = .ok (.iaload, 1) := by decide +kernel
theorem dX12_lacks_40 : decode cX12_lacks 40 = .ok (.iconst 1, 1) := by decide +kernel
theorem dX12_lacks_41 : decode cX12_lacks 41 = .ok (.isub, 1) := by decide +kernel
theorem dX12_lacks_42 : decode cX12_lacks 42 = .ok (.i2l, 1) := by decide +kernel
theorem dX12_lacks_43 : decode cX12_lacks 43 = .ok (.invokestatic 139, 3) := by decide +kernel
theorem dX12_lacks_46 : decode cX12_lacks 46 = .ok (.ifCond .eq 7, 3) := by decide +kernel
theorem dX12_lacks_49 : decode cX12_lacks 49 = .ok (.iconst 0, 1) := by decide +kernel
theorem dX12_lacks_50 : decode cX12_lacks 50 = .ok (.goto 8, 3) := by decide +kernel
theorem dX12_lacks_53 : decode cX12_lacks 53 = .ok (.aload_n 0, 1) := by decide +kernel
theorem dX12_lacks_54 : decode cX12_lacks 54 = .ok (.iconst 2, 1) := by decide +kernel
theorem dX12_lacks_55 : decode cX12_lacks 55 = .ok (.invokevirtual 149, 3) := by decide +kernel
theorem dX12_lacks_58 : decode cX12_lacks 58 = .ok (.ireturn, 1) := by decide +kernel
theorem dX12_cut_0 : decode cX12_cut 0 = .ok (.iload_n 0, 1) := by decide +kernel
theorem dX12_cut_1 : decode cX12_cut 1 = .ok (.ifCond .ne 8, 3) := by decide +kernel
theorem dX12_cut_4 : decode cX12_cut 4 = .ok (.iload_n 1, 1) := by decide +kernel
theorem dX12_cut_5 : decode cX12_cut 5 = .ok (.i2b, 1) := by decide +kernel
theorem dX12_cut_6 : decode cX12_cut 6 = .ok (.goto 14, 3) := by decide +kernel
theorem dX12_cut_9 : decode cX12_cut 9 = .ok (.iload_n 0, 1) := by decide +kernel
theorem dX12_cut_10 : decode cX12_cut 10 = .ok (.iconst 1, 1) := by decide +kernel
theorem dX12_cut_11 : decode cX12_cut 11 = .ok (.if_icmp .ne 8, 3) := by decide +kernel
theorem dX12_cut_14 : decode cX12_cut 14 = .ok (.iload_n 1, 1) := by decide +kernel
theorem dX12_cut_15 : decode cX12_cut 15 = .ok (.i2s, 1) := by decide +kernel
theorem dX12_cut_16 : decode cX12_cut 16 = .ok (.goto 4, 3) := by decide +kernel
theorem dX12_cut_19 : decode cX12_cut 19 = .ok (.iload_n 1, 1) := by decide +kernel
theorem dX12_cut_20 : decode cX12_cut 20 = .ok (.ireturn, 1) := by decide +kernel
theorem dX12_put_0 : decode cX12_put 0 = .ok (.iload_n 1, 1) := by decide +kernel
theorem dX12_put_1 : decode cX12_put 1 = .ok (.invokestatic 143, 3) := by decide +kernel
theorem dX12_put_4 : decode cX12_put 4 = .ok (.ifCond .eq 15, 3) := by decide +kernel
theorem dX12_put_7 : decode cX12_put 7 = .ok (.iload_n 2, 1) := by decide +kernel
theorem dX12_put_8 : decode cX12_put 8 = .ok (.i2l, 1) := by decide +kernel
theorem dX12_put_9 : decode cX12_put 9 = .ok (.lconst 0, 1) := by decide +kernel
theorem dX12_put_10 : decode cX12_put 10 = .ok (.ldc2_w 147, 3) := by decide +kernel
theorem dX12_put_13 : decode cX12_put 13 = .ok (.invokestatic 139, 3) := by decide +kernel
theorem dX12_put_16 : decode cX12_put 16 = .ok (.ifCond .ne 6, 3) := by decide +kernel
theorem dX12_put_19 : decode cX12_put 19 = .ok (.bipush (-2), 2) := by decide +kernel
theorem dX12_put_21 : decode cX12_put 21 = .ok (.ireturn, 1) := by decide +kernel
theorem dX12_put_22 : decode cX12_put 22 = .ok (.aload_n 0, 1) := by decide +kernel
theorem dX12_put_23 : decode cX12_put 23 = .ok (.iload_n 1, 1) := by decide +kernel
theorem dX12_put_24 : decode cX12_put 24 = .ok (.iload_n 2, 1) := by decide +kernel
theorem dX12_put_25 : decode cX12_put 25 = .ok (.iload_n 3, 1) := by decide +kernel
theorem dX12_put_26 : decode cX12_put 26 = .ok (.invokevirtual 153, 3) := by decide +kernel
theorem dX12_put_29 : decode cX12_put 29 = .ok (.istore 5, 2) := by decide +kernel
theorem dX12_put_31 : decode cX12_put 31 = .ok (.iload 5, 2) := by decide +kernel
theorem dX12_put_33 : decode cX12_put 33 = .ok (.ifCond .eq 6, 3) := by decide +kernel
theorem dX12_put_36 : decode cX12_put 36 = .ok (.iload 5, 2) := by decide +kernel
theorem dX12_put_38 : decode cX12_put 38 = .ok (.ireturn, 1) := by decide +kernel
theorem dX12_put_39 : decode cX12_put 39 = .ok (.aload_n 0, 1) := by decide +kernel
theorem dX12_put_40 : decode cX12_put 40 = .ok (.getfield 16, 3) := by decide +kernel
theorem dX12_put_43 : decode cX12_put 43 = .ok (.bipush 60, 2) := by decide +kernel
theorem dX12_put_45 : decode cX12_put 45 = .ok (.iload_n 1, 1) := by decide +kernel
theorem dX12_put_46 : decode cX12_put 46 = .ok (.imul, 1) := by decide +kernel
theorem dX12_put_47 : decode cX12_put 47 = .ok (.iload_n 3, 1) := by decide +kernel
theorem dX12_put_48 : decode cX12_put 48 = .ok (.iadd, 1) := by decide +kernel
theorem dX12_put_49 : decode cX12_put 49 = .ok (.iload_n 2, 1) := by decide +kernel
theorem dX12_put_50 : decode cX12_put 50 = .ok (.iload 4, 2) := by decide +kernel
theorem dX12_put_52 : decode cX12_put 52 = .ok (.invokestatic 157, 3) := by decide +kernel
theorem dX12_put_55 : decode cX12_put 55 = .ok (.iastore, 1) := by decide +kernel
theorem dX12_put_56 : decode cX12_put 56 = .ok (.iconst 1, 1) := by decide +kernel
theorem dX12_put_57 : decode cX12_put 57 = .ok (.ireturn, 1) := by decide +kernel
theorem dX12_get_0 : decode cX12_get 0 = .ok (.iload_n 1, 1) := by decide +kernel
theorem dX12_get_1 : decode cX12_get 1 = .ok (.invokestatic 143, 3) := by decide +kernel
theorem dX12_get_4 : decode cX12_get 4 = .ok (.ifCond .eq 25, 3) := by decide +kernel
theorem dX12_get_7 : decode cX12_get 7 = .ok (.iload_n 2, 1) := by decide +kernel
theorem dX12_get_8 : decode cX12_get 8 = .ok (.i2l, 1) := by decide +kernel
theorem dX12_get_9 : decode cX12_get 9 = .ok (.lconst 0, 1) := by decide +kernel
theorem dX12_get_10 : decode cX12_get 10 = .ok (.ldc2_w 147, 3) := by decide +kernel
theorem dX12_get_13 : decode cX12_get 13 = .ok (.invokestatic 139, 3) := by decide +kernel
theorem dX12_get_16 : decode cX12_get 16 = .ok (.ifCond .eq 13, 3) := by decide +kernel
theorem dX12_get_19 : decode cX12_get 19 = .ok (.aload_n 0, 1) := by decide +kernel
theorem dX12_get_20 : decode cX12_get 20 = .ok (.iload_n 1, 1) := by decide +kernel
theorem dX12_get_21 : decode cX12_get 21 = .ok (.iload_n 2, 1) := by decide +kernel
theorem dX12_get_22 : decode cX12_get 22 = .ok (.iload_n 3, 1) := by decide +kernel
theorem dX12_get_23 : decode cX12_get 23 = .ok (.invokevirtual 153, 3) := by decide +kernel
theorem dX12_get_26 : decode cX12_get 26 = .ok (.ifCond .eq 6, 3) := by decide +kernel
theorem dX12_get_29 : decode cX12_get 29 = .ok (.ldc 161, 2) := by decide +kernel
theorem dX12_get_31 : decode cX12_get 31 = .ok (.ireturn, 1) := by decide +kernel
theorem dX12_get_32 : decode cX12_get 32 = .ok (.aload_n 0, 1) := by decide +kernel
theorem dX12_get_33 : decode cX12_get 33 = .ok (.getfield 16, 3) := by decide +kernel
theorem dX12_get_36 : decode cX12_get 36 = .ok (.bipush 60, 2) := by decide +kernel
theorem dX12_get_38 : decode cX12_get 38 = .ok (.iload_n 1, 1) := by decide +kernel
theorem dX12_get_39 : decode cX12_get 39 = .ok (.imul, 1) := by decide +kernel
theorem dX12_get_40 : decode cX12_get 40 = .ok (.iload_n 3, 1) := by decide +kernel
theorem dX12_get_41 : decode cX12_get 41 = .ok (.iadd, 1) := by decide +kernel
theorem dX12_get_42 : decode cX12_get 42 = .ok (.iaload, 1) := by decide +kernel
theorem dX12_get_43 : decode cX12_get 43 = .ok (.ireturn, 1) := by decide +kernel
theorem dX12_copy_0 : decode cX12_copy 0 = .ok (.iload_n 1, 1) := by decide +kernel
theorem dX12_copy_1 : decode cX12_copy 1 = .ok (.invokestatic 143, 3) := by decide +kernel
theorem dX12_copy_4 : decode cX12_copy 4 = .ok (.ifCond .eq 10, 3) := by decide +kernel
theorem dX12_copy_7 : decode cX12_copy 7 = .ok (.iload_n 3, 1) := by decide +kernel
theorem dX12_copy_8 : decode cX12_copy 8 = .ok (.invokestatic 143, 3) := by decide +kernel
theorem dX12_copy_11 : decode cX12_copy 11 = .ok (.ifCond .ne 6, 3) := by decide +kernel
theorem dX12_copy_14 : decode cX12_copy 14 = .ok (.bipush (-2), 2) := by decide +kernel
theorem dX12_copy_16 : decode cX12_copy 16 = .ok (.ireturn, 1) := by decide +kernel
theorem dX12_copy_17 : decode cX12_copy 17 = .ok (.aload_n 0, 1) := by decide +kernel
theorem dX12_copy_18 : decode cX12_copy 18 = .ok (.getfield 7, 3) := by decide +kernel
theorem dX12_copy_21 : decode cX12_copy 21 = .ok (.iload_n 1, 1) := by decide +kernel
theorem dX12_copy_22 : decode cX12_copy 22 = .ok (.iaload, 1) := by decide +kernel
theorem dX12_copy_23 : decode cX12_copy 23 = .ok (.ifCond .lt 12, 3) := by decide +kernel
theorem dX12_copy_26 : decode cX12_copy 26 = .ok (.aload_n 0, 1) := by decide +kernel
theorem dX12_copy_27 : decode cX12_copy 27 = .ok (.getfield 7, 3) := by decide +kernel
theorem dX12_copy_30 : decode cX12_copy 30 = .ok (.iload_n 3, 1) := by decide +kernel
theorem dX12_copy_31 : decode cX12_copy 31 = .ok (.iaload, 1) := by decide +kernel
theorem dX12_copy_32 : decode cX12_copy 32 = .ok (.ifCond .ge 9, 3) := by decide +kernel
theorem dX12_copy_35 : decode cX12_copy 35 = .ok (.aload_n 0, 1) := by decide +kernel
theorem dX12_copy_36 : decode cX12_copy 36 = .ok (.iconst 1, 1) := by decide +kernel
theorem dX12_copy_37 : decode cX12_copy 37 = .ok (.invokevirtual 149, 3) := by decide +kernel
theorem dX12_copy_40 : decode cX12_copy 40 = .ok (.ireturn, 1) := by decide +kernel
theorem dX12_copy_41 : decode cX12_copy 41 = .ok (.aload_n 0, 1) := by decide +kernel
theorem dX12_copy_42 : decode cX12_copy 42 = .ok (.getfield 7, 3) := by decide +kernel
theorem dX12_copy_45 : decode cX12_copy 45 = .ok (.iload_n 1, 1) := by decide +kernel
theorem dX12_copy_46 : decode cX12_copy 46 = .ok (.iaload, 1) := by decide +kernel
theorem dX12_copy_47 : decode cX12_copy 47 = .ok (.aload_n 0, 1) := by decide +kernel
theorem dX12_copy_48 : decode cX12_copy 48 = .ok (.getfield 7, 3) := by decide +kernel
theorem dX12_copy_51 : decode cX12_copy 51 = .ok (.iload_n 3, 1) := by decide +kernel
theorem dX12_copy_52 : decode cX12_copy 52 = .ok (.iaload, 1) := by decide +kernel
theorem dX12_copy_53 : decode cX12_copy 53 = .ok (.if_icmp .eq 9, 3) := by decide +kernel
theorem dX12_copy_56 : decode cX12_copy 56 = .ok (.aload_n 0, 1) := by decide +kernel
theorem dX12_copy_57 : decode cX12_copy 57 = .ok (.iconst 4, 1) := by decide +kernel
theorem dX12_copy_58 : decode cX12_copy 58 = .ok (.invokevirtual 149, 3) := by decide +kernel
theorem dX12_copy_61 : decode cX12_copy 61 = .ok (.ireturn, 1) := by decide +kernel
theorem dX12_copy_62 : decode cX12_copy 62 = .ok (.iload_n 2, 1) := by decide +kernel
theorem dX12_copy_63 : decode cX12_copy 63 = .ok (.ifCond .lt 48, 3) := by decide +kernel
theorem dX12_copy_66 : decode cX12_copy 66 = .ok (.iload 4, 2) := by decide +kernel
theorem dX12_copy_68 : decode cX12_copy 68 = .ok (.ifCond .lt 43, 3) := by decide +kernel
theorem dX12_copy_71 : decode cX12_copy 71 = .ok (.iload 5, 2) := by decide +kernel
theorem dX12_copy_73 : decode cX12_copy 73 = .ok (.ifCond .lt 38, 3) := by decide +kernel
theorem dX12_copy_76 : decode cX12_copy 76 = .ok (.iload_n 2, 1) := by decide +kernel
theorem dX12_copy_77 : decode cX12_copy 77 = .ok (.i2l, 1) := by decide +kernel
theorem dX12_copy_78 : decode cX12_copy 78 = .ok (.iload 5, 2) := by decide +kernel
theorem dX12_copy_80 : decode cX12_copy 80 = .ok (.i2l, 1) := by decide +kernel
theorem dX12_copy_81 : decode cX12_copy 81 = .ok (.ladd, 1) := by decide +kernel
theorem dX12_copy_82 : decode cX12_copy 82 = .ok (.aload_n 0, 1) := by decide +kernel
theorem dX12_copy_83 : decode cX12_copy 83 = .ok (.getfield 13, 3) := by decide +kernel
theorem dX12_copy_86 : decode cX12_copy 86 = .ok (.iload_n 1, 1) := by decide +kernel
theorem dX12_copy_87 : decode cX12_copy 87 = .ok (.iaload, 1) := by decide +kernel
theorem dX12_copy_88 : decode cX12_copy 88 = .ok (.i2l, 1) := by decide +kernel
theorem dX12_copy_89 : decode cX12_copy 89 = .ok (.lcmp, 1) := by decide +kernel
theorem dX12_copy_90 : decode cX12_copy 90 = .ok (.ifCond .gt 21, 3) := by decide +kernel
theorem dX12_copy_93 : decode cX12_copy 93 = .ok (.iload 4, 2) := by decide +kernel
theorem dX12_copy_95 : decode cX12_copy 95 = .ok (.i2l, 1) := by decide +kernel
theorem dX12_copy_96 : decode cX12_copy 96 = .ok (.iload 5, 2) := by decide +kernel
theorem dX12_copy_98 : decode cX12_copy 98 = .ok (.i2l, 1) := by decide +kernel
theorem dX12_copy_99 : decode cX12_copy 99 = .ok (.ladd, 1) := by decide +kernel
theorem dX12_copy_100 : decode cX12_copy 100 = .ok (.aload_n 0, 1) := by decide +kernel
theorem dX12_copy_101 : decode cX12_copy 101 = .ok (.getfield 13, 3) := by decide +kernel
theorem dX12_copy_104 : decode cX12_copy 104 = .ok (.iload_n 3, 1) := by decide +kernel
theorem dX12_copy_105 : decode cX12_copy 105 = .ok (.iaload, 1) := by decide +kernel
theorem dX12_copy_106 : decode cX12_copy 106 = .ok (.i2l, 1) := by decide +kernel
theorem dX12_copy_107 : decode cX12_copy 107 = .ok (.lcmp, 1) := by decide +kernel
theorem dX12_copy_108 : decode cX12_copy 108 = .ok (.ifCond .le 9, 3) := by decide +kernel
theorem dX12_copy_111 : decode cX12_copy 111 = .ok (.aload_n 0, 1) := by decide +kernel
theorem dX12_copy_112 : decode cX12_copy 112 = .ok (.iconst 2, 1) := by decide +kernel
theorem dX12_copy_113 : decode cX12_copy 113 = .ok (.invokevirtual 149, 3) := by decide +kernel
theorem dX12_copy_116 : decode cX12_copy 116 = .ok (.ireturn, 1) := by decide +kernel
theorem dX12_copy_117 : decode cX12_copy 117 = .ok (.iconst 0, 1) := by decide +kernel
theorem dX12_copy_118 : decode cX12_copy 118 = .ok (.istore 6, 2) := by decide +kernel
theorem dX12_copy_120 : decode cX12_copy 120 = .ok (.iload 6, 2) := by decide +kernel
theorem dX12_copy_122 : decode cX12_copy 122 = .ok (.iload 5, 2) := by decide +kernel
theorem dX12_copy_124 : decode cX12_copy 124 = .ok (.if_icmp .ge 30, 3) := by decide +kernel
theorem dX12_copy_127 : decode cX12_copy 127 = .ok (.aload_n 0, 1) := by decide +kernel
theorem dX12_copy_128 : decode cX12_copy 128 = .ok (.getfield 19, 3) := by decide +kernel
theorem dX12_copy_131 : decode cX12_copy 131 = .ok (.iload 6, 2) := by decide +kernel
theorem dX12_copy_133 : decode cX12_copy 133 = .ok (.aload_n 0, 1) := by decide +kernel
theorem dX12_copy_134 : decode cX12_copy 134 = .ok (.getfield 16, 3) := by decide +kernel
theorem dX12_copy_137 : decode cX12_copy 137 = .ok (.bipush 60, 2) := by decide +kernel
theorem dX12_copy_139 : decode cX12_copy 139 = .ok (.iload_n 1, 1) := by decide +kernel
theorem dX12_copy_140 : decode cX12_copy 140 = .ok (.imul, 1) := by decide +kernel
theorem dX12_copy_141 : decode cX12_copy 141 = .ok (.iload_n 2, 1) := by decide +kernel
theorem dX12_copy_142 : decode cX12_copy 142 = .ok (.iadd, 1) := by decide +kernel
theorem dX12_copy_143 : decode cX12_copy 143 = .ok (.iload 6, 2) := by decide +kernel
theorem dX12_copy_145 : decode cX12_copy 145 = .ok (.iadd, 1) := by decide +kernel
theorem dX12_copy_146 : decode cX12_copy 146 = .ok (.iaload, 1) := by decide +kernel
theorem dX12_copy_147 : decode cX12_copy 147 = .ok (.iastore, 1) := by decide +kernel
theorem dX12_copy_148 : decode cX12_copy 148 = .ok (.iinc 6 1, 3) := by decide +kernel
theorem dX12_copy_151 : decode cX12_copy 151 = .ok (.goto (-31), 3) := by decide +kernel
theorem dX12_copy_154 : decode cX12_copy 154 = .ok (.iconst 0, 1) := by decide +kernel
theorem dX12_copy_155 : decode cX12_copy 155 = .ok (.istore 6, 2) := by decide +kernel
theorem dX12_copy_157 : decode cX12_copy 157 = .ok (.iload 6, 2) := by decide +kernel
theorem dX12_copy_159 : decode cX12_copy 159 = .ok (.iload 5, 2) := by decide +kernel
theorem dX12_copy_161 : decode cX12_copy 161 = .ok (.if_icmp .ge 31, 3) := by decide +kernel
theorem dX12_copy_164 : decode cX12_copy 164 = .ok (.aload_n 0, 1) := by decide +kernel
theorem dX12_copy_165 : decode cX12_copy 165 = .ok (.getfield 16, 3) := by decide +kernel
theorem dX12_copy_168 : decode cX12_copy 168 = .ok (.bipush 60, 2) := by decide +kernel
theorem dX12_copy_170 : decode cX12_copy 170 = .ok (.iload_n 3, 1) := by decide +kernel
theorem dX12_copy_171 : decode cX12_copy 171 = .ok (.imul, 1) := by decide +kernel
theorem dX12_copy_172 : decode cX12_copy 172 = .ok (.iload 4, 2) := by decide +kernel
theorem dX12_copy_174 : decode cX12_copy 174 = .ok (.iadd, 1) := by decide +kernel
theorem dX12_copy_175 : decode cX12_copy 175 = .ok (.iload 6, 2) := by decide +kernel
theorem dX12_copy_177 : decode cX12_copy 177 = .ok (.iadd, 1) := by decide +kernel
theorem dX12_copy_178 : decode cX12_copy 178 = .ok (.aload_n 0, 1) := by decide +kernel
theorem dX12_copy_179 : decode cX12_copy 179 = .ok (.getfield 19, 3) := by decide +kernel
theorem dX12_copy_182 : decode cX12_copy 182 = .ok (.iload 6, 2) := by decide +kernel
theorem dX12_copy_184 : decode cX12_copy 184 = .ok (.iaload, 1) := by decide +kernel
theorem dX12_copy_185 : decode cX12_copy 185 = .ok (.iastore, 1) := by decide +kernel
theorem dX12_copy_186 : decode cX12_copy 186 = .ok (.iinc 6 1, 3) := by decide +kernel
theorem dX12_copy_189 : decode cX12_copy 189 = .ok (.goto (-32), 3) := by decide +kernel
theorem dX12_copy_192 : decode cX12_copy 192 = .ok (.iconst 1, 1) := by decide +kernel
theorem dX12_copy_193 : decode cX12_copy 193 = .ok (.ireturn, 1) := by decide +kernel
theorem dX12_isWeek_0 : decode cX12_isWeek 0 = .ok (.iload_n 0, 1) := by decide +kernel
theorem dX12_isWeek_1 : decode cX12_isWeek 1 = .ok (.i2l, 1) := by decide +kernel
theorem dX12_isWeek_2 : decode cX12_isWeek 2 = .ok (.lconst 0, 1) := by decide +kernel
theorem dX12_isWeek_3 : decode cX12_isWeek 3 = .ok (.ldc2_w 162, 3) := by decide +kernel
theorem dX12_isWeek_6 : decode cX12_isWeek 6 = .ok (.invokestatic 139, 3) := by decide +kernel
theorem dX12_isWeek_9 : decode cX12_isWeek 9 = .ok (.ireturn, 1) := by decide +kernel
theorem dX12_isParish_0 : decode cX12_isParish 0 = .ok (.iload_n 1, 1) := by decide +kernel
theorem dX12_isParish_1 : decode cX12_isParish 1 = .ok (.i2l, 1) := by decide +kernel
theorem dX12_isParish_2 : decode cX12_isParish 2 = .ok (.lconst 0, 1) := by decide +kernel
theorem dX12_isParish_3 : decode cX12_isParish 3 = .ok (.aload_n 0, 1) := by decide +kernel
theorem dX12_isParish_4 : decode cX12_isParish 4 = .ok (.getfield 164, 3) := by decide +kernel
theorem dX12_isParish_7 : decode cX12_isParish 7 = .ok (.iconst 1, 1) := by decide +kernel
theorem dX12_isParish_8 : decode cX12_isParish 8 = .ok (.isub, 1) := by decide +kernel
theorem dX12_isParish_9 : decode cX12_isParish 9 = .ok (.i2l, 1) := by decide +kernel
theorem dX12_isParish_10 : decode cX12_isParish 10 = .ok (.invokestatic 139, 3) := by decide +kernel
theorem dX12_isParish_13 : decode cX12_isParish 13 = .ok (.ireturn, 1) := by decide +kernel
theorem dX12_isBell_0 : decode cX12_isBell 0 = .ok (.iload_n 1, 1) := by decide +kernel
theorem dX12_isBell_1 : decode cX12_isBell 1 = .ok (.i2l, 1) := by decide +kernel
theorem dX12_isBell_2 : decode cX12_isBell 2 = .ok (.lconst 0, 1) := by decide +kernel
theorem dX12_isBell_3 : decode cX12_isBell 3 = .ok (.aload_n 0, 1) := by decide +kernel
theorem dX12_isBell_4 : decode cX12_isBell 4 = .ok (.getfield 167, 3) := by decide +kernel
theorem dX12_isBell_7 : decode cX12_isBell 7 = .ok (.iconst 1, 1) := by decide +kernel
theorem dX12_isBell_8 : decode cX12_isBell 8 = .ok (.isub, 1) := by decide +kernel
theorem dX12_isBell_9 : decode cX12_isBell 9 = .ok (.i2l, 1) := by decide +kernel
theorem dX12_isBell_10 : decode cX12_isBell 10 = .ok (.invokestatic 139, 3) := by decide +kernel
theorem dX12_isBell_13 : decode cX12_isBell 13 = .ok (.ireturn, 1) := by decide +kernel
theorem dX12_pass_0 : decode cX12_pass 0 = .ok (.iload_n 1, 1) := by decide +kernel
theorem dX12_pass_1 : decode cX12_pass 1 = .ok (.i2l, 1) := by decide +kernel
theorem dX12_pass_2 : decode cX12_pass 2 = .ok (.lconst 1, 1) := by decide +kernel
theorem dX12_pass_3 : decode cX12_pass 3 = .ok (.ldc2_w 170, 3) := by decide +kernel
theorem dX12_pass_6 : decode cX12_pass 6 = .ok (.invokestatic 139, 3) := by decide +kernel
theorem dX12_pass_9 : decode cX12_pass 9 = .ok (.ifCond .eq 15, 3) := by decide +kernel
theorem dX12_pass_12 : decode cX12_pass 12 = .ok (.aload_n 0, 1) := by decide +kernel
theorem dX12_pass_13 : decode cX12_pass 13 = .ok (.getfield 172, 3) := by decide +kernel
theorem dX12_pass_16 : decode cX12_pass 16 = .ok (.iload_n 1, 1) := by decide +kernel
theorem dX12_pass_17 : decode cX12_pass 17 = .ok (.iadd, 1) := by decide +kernel
theorem dX12_pass_18 : decode cX12_pass 18 = .ok (.sipush 199, 3) := by decide +kernel
theorem dX12_pass_21 : decode cX12_pass 21 = .ok (.if_icmp .le 6, 3) := by decide +kernel
theorem dX12_pass_24 : decode cX12_pass 24 = .ok (.bipush (-2), 2) := by decide +kernel
theorem dX12_pass_26 : decode cX12_pass 26 = .ok (.ireturn, 1) := by decide +kernel
theorem dX12_pass_27 : decode cX12_pass 27 = .ok (.aload_n 0, 1) := by decide +kernel
theorem dX12_pass_28 : decode cX12_pass 28 = .ok (.dup, 1) := by decide +kernel
theorem dX12_pass_29 : decode cX12_pass 29 = .ok (.getfield 172, 3) := by decide +kernel
theorem dX12_pass_32 : decode cX12_pass 32 = .ok (.iload_n 1, 1) := by decide +kernel
theorem dX12_pass_33 : decode cX12_pass 33 = .ok (.iadd, 1) := by decide +kernel
theorem dX12_pass_34 : decode cX12_pass 34 = .ok (.putfield 172, 3) := by decide +kernel
theorem dX12_pass_37 : decode cX12_pass 37 = .ok (.aload_n 0, 1) := by decide +kernel
theorem dX12_pass_38 : decode cX12_pass 38 = .ok (.getfield 172, 3) := by decide +kernel
theorem dX12_pass_41 : decode cX12_pass 41 = .ok (.ireturn, 1) := by decide +kernel
theorem dX12_parish_0 : decode cX12_parish 0 = .ok (.iload_n 1, 1) := by decide +kernel
theorem dX12_parish_1 : decode cX12_parish 1 = .ok (.i2l, 1) := by decide +kernel
theorem dX12_parish_2 : decode cX12_parish 2 = .ok (.lconst 0, 1) := by decide +kernel
theorem dX12_parish_3 : decode cX12_parish 3 = .ok (.ldc2_w 137, 3) := by decide +kernel
theorem dX12_parish_6 : decode cX12_parish 6 = .ok (.invokestatic 139, 3) := by decide +kernel
theorem dX12_parish_9 : decode cX12_parish 9 = .ok (.ifCond .ne 6, 3) := by decide +kernel
theorem dX12_parish_12 : decode cX12_parish 12 = .ok (.bipush (-2), 2) := by decide +kernel
theorem dX12_parish_14 : decode cX12_parish 14 = .ok (.ireturn, 1) := by decide +kernel
theorem dX12_parish_15 : decode cX12_parish 15 = .ok (.aload_n 0, 1) := by decide +kernel
theorem dX12_parish_16 : decode cX12_parish 16 = .ok (.getfield 164, 3) := by decide +kernel
theorem dX12_parish_19 : decode cX12_parish 19 = .ok (.bipush 8, 2) := by decide +kernel
theorem dX12_parish_21 : decode cX12_parish 21 = .ok (.if_icmp .ne 6, 3) := by decide +kernel
theorem dX12_parish_24 : decode cX12_parish 24 = .ok (.bipush (-4), 2) := by decide +kernel
theorem dX12_parish_26 : decode cX12_parish 26 = .ok (.ireturn, 1) := by decide +kernel
theorem dX12_parish_27 : decode cX12_parish 27 = .ok (.aload_n 0, 1) := by decide +kernel
theorem dX12_parish_28 : decode cX12_parish 28 = .ok (.getfield 22, 3) := by decide +kernel
theorem dX12_parish_31 : decode cX12_parish 31 = .ok (.aload_n 0, 1) := by decide +kernel
theorem dX12_parish_32 : decode cX12_parish 32 = .ok (.getfield 164, 3) := by decide +kernel
theorem dX12_parish_35 : decode cX12_parish 35 = .ok (.iload_n 1, 1) := by decide +kernel
theorem dX12_parish_36 : decode cX12_parish 36 = .ok (.iastore, 1) := by decide +kernel
theorem dX12_parish_37 : decode cX12_parish 37 = .ok (.aload_n 0, 1) := by decide +kernel
theorem dX12_parish_38 : decode cX12_parish 38 = .ok (.dup, 1) := by decide +kernel
theorem dX12_parish_39 : decode cX12_parish 39 = .ok (.getfield 164, 3) := by decide +kernel
theorem dX12_parish_42 : decode cX12_parish 42 = .ok (.iconst 1, 1) := by decide +kernel
theorem dX12_parish_43 : decode cX12_parish 43 = .ok (.iadd, 1) := by decide +kernel
theorem dX12_parish_44 : decode cX12_parish 44 = .ok (.putfield 164, 3) := by decide +kernel
theorem dX12_parish_47 : decode cX12_parish 47 = .ok (.aload_n 0, 1) := by decide +kernel
theorem dX12_parish_48 : decode cX12_parish 48 = .ok (.getfield 164, 3) := by decide +kernel
theorem dX12_parish_51 : decode cX12_parish 51 = .ok (.iconst 1, 1) := by decide +kernel
theorem dX12_parish_52 : decode cX12_parish 52 = .ok (.isub, 1) := by decide +kernel
theorem dX12_parish_53 : decode cX12_parish 53 = .ok (.ireturn, 1) := by decide +kernel
theorem dX12_moved_0 : decode cX12_moved 0 = .ok (.aload_n 0, 1) := by decide +kernel
theorem dX12_moved_1 : decode cX12_moved 1 = .ok (.iload_n 1, 1) := by decide +kernel
theorem dX12_moved_2 : decode cX12_moved 2 = .ok (.invokevirtual 175, 3) := by decide +kernel
theorem dX12_moved_5 : decode cX12_moved 5 = .ok (.ifCond .eq 25, 3) := by decide +kernel
theorem dX12_moved_8 : decode cX12_moved 8 = .ok (.iload_n 2, 1) := by decide +kernel
theorem dX12_moved_9 : decode cX12_moved 9 = .ok (.i2l, 1) := by decide +kernel
theorem dX12_moved_10 : decode cX12_moved 10 = .ok (.lconst 0, 1) := by decide +kernel
theorem dX12_moved_11 : decode cX12_moved 11 = .ok (.ldc2_w 137, 3) := by decide +kernel
theorem dX12_moved_14 : decode cX12_moved 14 = .ok (.invokestatic 139, 3) := by decide +kernel
theorem dX12_moved_17 : decode cX12_moved 17 = .ok (.ifCond .eq 13, 3) := by decide +kernel
theorem dX12_moved_20 : decode cX12_moved 20 = .ok (.aload_n 0, 1) := by decide +kernel
theorem dX12_moved_21 : decode cX12_moved 21 = .ok (.getfield 22, 3) := by decide +kernel
theorem dX12_moved_24 : decode cX12_moved 24 = .ok (.iload_n 1, 1) := by decide +kernel
theorem dX12_moved_25 : decode cX12_moved 25 = .ok (.iaload, 1) := by decide +kernel
theorem dX12_moved_26 : decode cX12_moved 26 = .ok (.iload_n 2, 1) := by decide +kernel
theorem dX12_moved_27 : decode cX12_moved 27 = .ok (.if_icmp .ne 6, 3) := by decide +kernel
theorem dX12_moved_30 : decode cX12_moved 30 = .ok (.bipush (-2), 2) := by decide +kernel
theorem dX12_moved_32 : decode cX12_moved 32 = .ok (.ireturn, 1) := by decide +kernel
theorem dX12_moved_33 : decode cX12_moved 33 = .ok (.aload_n 0, 1) := by decide +kernel
theorem dX12_moved_34 : decode cX12_moved 34 = .ok (.getfield 22, 3) := by decide +kernel
theorem dX12_moved_37 : decode cX12_moved 37 = .ok (.iload_n 1, 1) := by decide +kernel
theorem dX12_moved_38 : decode cX12_moved 38 = .ok (.iaload, 1) := by decide +kernel
theorem dX12_moved_39 : decode cX12_moved 39 = .ok (.istore_n 3, 1) := by decide +kernel
theorem dX12_moved_40 : decode cX12_moved 40 = .ok (.aload_n 0, 1) := by decide +kernel
theorem dX12_moved_41 : decode cX12_moved 41 = .ok (.getfield 22, 3) := by decide +kernel
theorem dX12_moved_44 : decode cX12_moved 44 = .ok (.iload_n 1, 1) := by decide +kernel
theorem dX12_moved_45 : decode cX12_moved 45 = .ok (.iload_n 2, 1) := by decide +kernel
theorem dX12_moved_46 : decode cX12_moved 46 = .ok (.iastore, 1) := by decide +kernel
theorem dX12_moved_47 : decode cX12_moved 47 = .ok (.iload_n 3, 1) := by decide +kernel
theorem dX12_moved_48 : decode cX12_moved 48 = .ok (.ireturn, 1) := by decide +kernel
theorem dX12_bell_0 : decode cX12_bell 0 = .ok (.aload_n 0, 1) := by decide +kernel
theorem dX12_bell_1 : decode cX12_bell 1 = .ok (.iload_n 1, 1) := by decide +kernel
theorem dX12_bell_2 : decode cX12_bell 2 = .ok (.invokevirtual 175, 3) := by decide +kernel
theorem dX12_bell_5 : decode cX12_bell 5 = .ok (.ifCond .eq 42, 3) := by decide +kernel
theorem dX12_bell_8 : decode cX12_bell 8 = .ok (.iload_n 2, 1) := by decide +kernel
theorem dX12_bell_9 : decode cX12_bell 9 = .ok (.i2l, 1) := by decide +kernel
theorem dX12_bell_10 : decode cX12_bell 10 = .ok (.lconst 1, 1) := by decide +kernel
theorem dX12_bell_11 : decode cX12_bell 11 = .ok (.ldc2_w 178, 3) := by decide +kernel
theorem dX12_bell_14 : decode cX12_bell 14 = .ok (.invokestatic 139, 3) := by decide +kernel
theorem dX12_bell_17 : decode cX12_bell 17 = .ok (.ifCond .eq 30, 3) := by decide +kernel
theorem dX12_bell_20 : decode cX12_bell 20 = .ok (.iload_n 3, 1) := by decide +kernel
theorem dX12_bell_21 : decode cX12_bell 21 = .ok (.i2l, 1) := by decide +kernel
theorem dX12_bell_22 : decode cX12_bell 22 = .ok (.ldc2_w 180, 3) := by decide +kernel
theorem dX12_bell_25 : decode cX12_bell 25 = .ok (.ldc2_w 182, 3) := by decide +kernel
theorem dX12_bell_28 : decode cX12_bell 28 = .ok (.invokestatic 139, 3) := by decide +kernel
theorem dX12_bell_31 : decode cX12_bell 31 = .ok (.ifCond .eq 16, 3) := by decide +kernel
theorem dX12_bell_34 : decode cX12_bell 34 = .ok (.iload 4, 2) := by decide +kernel
theorem dX12_bell_36 : decode cX12_bell 36 = .ok (.i2l, 1) := by decide +kernel
theorem dX12_bell_37 : decode cX12_bell 37 = .ok (.lconst 0, 1) := by decide +kernel
theorem dX12_bell_38 : decode cX12_bell 38 = .ok (.ldc2_w 184, 3) := by decide +kernel
theorem dX12_bell_41 : decode cX12_bell 41 = .ok (.invokestatic 139, 3) := by decide +kernel
theorem dX12_bell_44 : decode cX12_bell 44 = .ok (.ifCond .ne 6, 3) := by decide +kernel
theorem dX12_bell_47 : decode cX12_bell 47 = .ok (.bipush (-2), 2) := by decide +kernel
theorem dX12_bell_49 : decode cX12_bell 49 = .ok (.ireturn, 1) := by decide +kernel
theorem dX12_bell_50 : decode cX12_bell 50 = .ok (.aload_n 0, 1) := by decide +kernel
theorem dX12_bell_51 : decode cX12_bell 51 = .ok (.getfield 167, 3) := by decide +kernel
theorem dX12_bell_54 : decode cX12_bell 54 = .ok (.bipush 20, 2) := by decide +kernel
theorem dX12_bell_56 : decode cX12_bell 56 = .ok (.if_icmp .ne 6, 3) := by decide +kernel
theorem dX12_bell_59 : decode cX12_bell 59 = .ok (.bipush (-4), 2) := by decide +kernel
theorem dX12_bell_61 : decode cX12_bell 61 = .ok (.ireturn, 1) := by decide +kernel
theorem dX12_bell_62 : decode cX12_bell 62 = .ok (.aload_n 0, 1) := by decide +kernel
theorem dX12_bell_63 : decode cX12_bell 63 = .ok (.getfield 25, 3) := by decide +kernel
theorem dX12_bell_66 : decode cX12_bell 66 = .ok (.aload_n 0, 1) := by decide +kernel
theorem dX12_bell_67 : decode cX12_bell 67 = .ok (.getfield 167, 3) := by decide +kernel
theorem dX12_bell_70 : decode cX12_bell 70 = .ok (.iload_n 1, 1) := by decide +kernel
theorem dX12_bell_71 : decode cX12_bell 71 = .ok (.iastore, 1) := by decide +kernel
theorem dX12_bell_72 : decode cX12_bell 72 = .ok (.aload_n 0, 1) := by decide +kernel
theorem dX12_bell_73 : decode cX12_bell 73 = .ok (.getfield 28, 3) := by decide +kernel
theorem dX12_bell_76 : decode cX12_bell 76 = .ok (.aload_n 0, 1) := by decide +kernel
theorem dX12_bell_77 : decode cX12_bell 77 = .ok (.getfield 167, 3) := by decide +kernel
theorem dX12_bell_80 : decode cX12_bell 80 = .ok (.iload_n 2, 1) := by decide +kernel
theorem dX12_bell_81 : decode cX12_bell 81 = .ok (.iastore, 1) := by decide +kernel
theorem dX12_bell_82 : decode cX12_bell 82 = .ok (.aload_n 0, 1) := by decide +kernel
theorem dX12_bell_83 : decode cX12_bell 83 = .ok (.getfield 31, 3) := by decide +kernel
theorem dX12_bell_86 : decode cX12_bell 86 = .ok (.aload_n 0, 1) := by decide +kernel
theorem dX12_bell_87 : decode cX12_bell 87 = .ok (.getfield 167, 3) := by decide +kernel
theorem dX12_bell_90 : decode cX12_bell 90 = .ok (.iload_n 3, 1) := by decide +kernel
theorem dX12_bell_91 : decode cX12_bell 91 = .ok (.iastore, 1) := by decide +kernel
theorem dX12_bell_92 : decode cX12_bell 92 = .ok (.aload_n 0, 1) := by decide +kernel
theorem dX12_bell_93 : decode cX12_bell 93 = .ok (.getfield 34, 3) := by decide +kernel
theorem dX12_bell_96 : decode cX12_bell 96 = .ok (.aload_n 0, 1) := by decide +kernel
theorem dX12_bell_97 : decode cX12_bell 97 = .ok (.getfield 167, 3) := by decide +kernel
theorem dX12_bell_100 : decode cX12_bell 100 = .ok (.iload 4, 2) := by decide +kernel
theorem dX12_bell_102 : decode cX12_bell 102 = .ok (.iastore, 1) := by decide +kernel
theorem dX12_bell_103 : decode cX12_bell 103 = .ok (.aload_n 0, 1) := by decide +kernel
theorem dX12_bell_104 : decode cX12_bell 104 = .ok (.getfield 40, 3) := by decide +kernel
theorem dX12_bell_107 : decode cX12_bell 107 = .ok (.aload_n 0, 1) := by decide +kernel
theorem dX12_bell_108 : decode cX12_bell 108 = .ok (.getfield 167, 3) := by decide +kernel
theorem dX12_bell_111 : decode cX12_bell 111 = .ok (.iconst (-1), 1) := by decide +kernel
theorem dX12_bell_112 : decode cX12_bell 112 = .ok (.iastore, 1) := by decide +kernel
theorem dX12_bell_113 : decode cX12_bell 113 = .ok (.aload_n 0, 1) := by decide +kernel
theorem dX12_bell_114 : decode cX12_bell 114 = .ok (.getfield 43, 3) := by decide +kernel
theorem dX12_bell_117 : decode cX12_bell 117 = .ok (.aload_n 0, 1) := by decide +kernel
theorem dX12_bell_118 : decode cX12_bell 118 = .ok (.getfield 167, 3) := by decide +kernel
theorem dX12_bell_121 : decode cX12_bell 121 = .ok (.iconst 5, 1) := by decide +kernel
theorem dX12_bell_122 : decode cX12_bell 122 = .ok (.iastore, 1) := by decide +kernel
theorem dX12_bell_123 : decode cX12_bell 123 = .ok (.aload_n 0, 1) := by decide +kernel
theorem dX12_bell_124 : decode cX12_bell 124 = .ok (.getfield 46, 3) := by decide +kernel
theorem dX12_bell_127 : decode cX12_bell 127 = .ok (.aload_n 0, 1) := by decide +kernel
theorem dX12_bell_128 : decode cX12_bell 128 = .ok (.getfield 167, 3) := by decide +kernel
theorem dX12_bell_131 : decode cX12_bell 131 = .ok (.sipush 999, 3) := by decide +kernel
theorem dX12_bell_134 : decode cX12_bell 134 = .ok (.iastore, 1) := by decide +kernel
theorem dX12_bell_135 : decode cX12_bell 135 = .ok (.iconst 0, 1) := by decide +kernel
theorem dX12_bell_136 : decode cX12_bell 136 = .ok (.istore 5, 2) := by decide +kernel
theorem dX12_bell_138 : decode cX12_bell 138 = .ok (.iload 5, 2) := by decide +kernel
theorem dX12_bell_140 : decode cX12_bell 140 = .ok (.iconst 5, 1) := by decide +kernel
theorem dX12_bell_141 : decode cX12_bell 141 = .ok (.if_icmp .ge 24, 3) := by decide +kernel
theorem dX12_bell_144 : decode cX12_bell 144 = .ok (.aload_n 0, 1) := by decide +kernel
theorem dX12_bell_145 : decode cX12_bell 145 = .ok (.getfield 37, 3) := by decide +kernel
theorem dX12_bell_148 : decode cX12_bell 148 = .ok (.iconst 5, 1) := by decide +kernel
theorem dX12_bell_149 : decode cX12_bell 149 = .ok (.aload_n 0, 1) := by decide +kernel
theorem dX12_bell_150 : decode cX12_bell 150 = .ok (.getfield 167, 3) := by decide +kernel
theorem dX12_bell_153 : decode cX12_bell 153 = .ok (.imul, 1) := by decide +kernel
theorem dX12_bell_154 : decode cX12_bell 154 = .ok (.iload 5, 2) := by decide +kernel
theorem dX12_bell_156 : decode cX12_bell 156 = .ok (.iadd, 1) := by decide +kernel
theorem dX12_bell_157 : decode cX12_bell 157 = .ok (.iconst (-1), 1) := by decide +kernel
theorem dX12_bell_158 : decode cX12_bell 158 = .ok (.iastore, 1) := by decide +kernel
theorem dX12_bell_159 : decode cX12_bell 159 = .ok (.iinc 5 1, 3) := by decide +kernel
theorem dX12_bell_162 : decode cX12_bell 162 = .ok (.goto (-24), 3) := by decide +kernel
theorem dX12_bell_165 : decode cX12_bell 165 = .ok (.aload_n 0, 1) := by decide +kernel
theorem dX12_bell_166 : decode cX12_bell 166 = .ok (.dup, 1) := by decide +kernel
theorem dX12_bell_167 : decode cX12_bell 167 = .ok (.getfield 167, 3) := by decide +kernel
theorem dX12_bell_170 : decode cX12_bell 170 = .ok (.iconst 1, 1) := by decide +kernel
theorem dX12_bell_171 : decode cX12_bell 171 = .ok (.iadd, 1) := by decide +kernel
theorem dX12_bell_172 : decode cX12_bell 172 = .ok (.putfield 167, 3) := by decide +kernel
theorem dX12_bell_175 : decode cX12_bell 175 = .ok (.aload_n 0, 1) := by decide +kernel
theorem dX12_bell_176 : decode cX12_bell 176 = .ok (.getfield 167, 3) := by decide +kernel
theorem dX12_bell_179 : decode cX12_bell 179 = .ok (.iconst 1, 1) := by decide +kernel
theorem dX12_bell_180 : decode cX12_bell 180 = .ok (.isub, 1) := by decide +kernel
theorem dX12_bell_181 : decode cX12_bell 181 = .ok (.ireturn, 1) := by decide +kernel
theorem dX12_read_0 : decode cX12_read 0 = .ok (.iload_n 1, 1) := by decide +kernel
theorem dX12_read_1 : decode cX12_read 1 = .ok (.invokestatic 143, 3) := by decide +kernel
theorem dX12_read_4 : decode cX12_read 4 = .ok (.ifCond .ne 6, 3) := by decide +kernel
theorem dX12_read_7 : decode cX12_read 7 = .ok (.bipush (-2), 2) := by decide +kernel
theorem dX12_read_9 : decode cX12_read 9 = .ok (.ireturn, 1) := by decide +kernel
theorem dX12_read_10 : decode cX12_read 10 = .ok (.aload_n 0, 1) := by decide +kernel
theorem dX12_read_11 : decode cX12_read 11 = .ok (.getfield 7, 3) := by decide +kernel
theorem dX12_read_14 : decode cX12_read 14 = .ok (.iload_n 1, 1) := by decide +kernel
theorem dX12_read_15 : decode cX12_read 15 = .ok (.iaload, 1) := by decide +kernel
theorem dX12_read_16 : decode cX12_read 16 = .ok (.ifCond .ge 9, 3) := by decide +kernel
theorem dX12_read_19 : decode cX12_read 19 = .ok (.aload_n 0, 1) := by decide +kernel
theorem dX12_read_20 : decode cX12_read 20 = .ok (.iconst 1, 1) := by decide +kernel
theorem dX12_read_21 : decode cX12_read 21 = .ok (.invokevirtual 149, 3) := by decide +kernel
theorem dX12_read_24 : decode cX12_read 24 = .ok (.ireturn, 1) := by decide +kernel
theorem dX12_read_25 : decode cX12_read 25 = .ok (.iconst 0, 1) := by decide +kernel
theorem dX12_read_26 : decode cX12_read 26 = .ok (.istore_n 2, 1) := by decide +kernel
theorem dX12_read_27 : decode cX12_read 27 = .ok (.iconst 1, 1) := by decide +kernel
theorem dX12_read_28 : decode cX12_read 28 = .ok (.istore_n 3, 1) := by decide +kernel
theorem dX12_read_29 : decode cX12_read 29 = .ok (.iload_n 3, 1) := by decide +kernel
theorem dX12_read_30 : decode cX12_read 30 = .ok (.ifCond .eq 89, 3) := by decide +kernel
theorem dX12_read_33 : decode cX12_read 33 = .ok (.iconst 4, 1) := by decide +kernel
theorem dX12_read_34 : decode cX12_read 34 = .ok (.iload_n 2, 1) := by decide +kernel
theorem dX12_read_35 : decode cX12_read 35 = .ok (.imul, 1) := by decide +kernel
theorem dX12_read_36 : decode cX12_read 36 = .ok (.iconst 4, 1) := by decide +kernel
theorem dX12_read_37 : decode cX12_read 37 = .ok (.iadd, 1) := by decide +kernel
theorem dX12_read_38 : decode cX12_read 38 = .ok (.aload_n 0, 1) := by decide +kernel
theorem dX12_read_39 : decode cX12_read 39 = .ok (.getfield 13, 3) := by decide +kernel
theorem dX12_read_42 : decode cX12_read 42 = .ok (.iload_n 1, 1) := by decide +kernel
theorem dX12_read_43 : decode cX12_read 43 = .ok (.iaload, 1) := by decide +kernel
theorem dX12_read_44 : decode cX12_read 44 = .ok (.if_icmp .gt 75, 3) := by decide +kernel
theorem dX12_read_47 : decode cX12_read 47 = .ok (.bipush 60, 2) := by decide +kernel
theorem dX12_read_49 : decode cX12_read 49 = .ok (.iload_n 1, 1) := by decide +kernel
theorem dX12_read_50 : decode cX12_read 50 = .ok (.imul, 1) := by decide +kernel
theorem dX12_read_51 : decode cX12_read 51 = .ok (.iconst 4, 1) := by decide +kernel
theorem dX12_read_52 : decode cX12_read 52 = .ok (.iload_n 2, 1) := by decide +kernel
theorem dX12_read_53 : decode cX12_read 53 = .ok (.imul, 1) := by decide +kernel
theorem dX12_read_54 : decode cX12_read 54 = .ok (.iadd, 1) := by decide +kernel
theorem dX12_read_55 : decode cX12_read 55 = .ok (.istore 4, 2) := by decide +kernel
theorem dX12_read_57 : decode cX12_read 57 = .ok (.aload_n 0, 1) := by decide +kernel
theorem dX12_read_58 : decode cX12_read 58 = .ok (.aload_n 0, 1) := by decide +kernel
theorem dX12_read_59 : decode cX12_read 59 = .ok (.getfield 16, 3) := by decide +kernel
theorem dX12_read_62 : decode cX12_read 62 = .ok (.iload 4, 2) := by decide +kernel
theorem dX12_read_64 : decode cX12_read 64 = .ok (.iaload, 1) := by decide +kernel
theorem dX12_read_65 : decode cX12_read 65 = .ok (.aload_n 0, 1) := by decide +kernel
theorem dX12_read_66 : decode cX12_read 66 = .ok (.getfield 16, 3) := by decide +kernel
theorem dX12_read_69 : decode cX12_read 69 = .ok (.iload 4, 2) := by decide +kernel
theorem dX12_read_71 : decode cX12_read 71 = .ok (.iconst 1, 1) := by decide +kernel
theorem dX12_read_72 : decode cX12_read 72 = .ok (.iadd, 1) := by decide +kernel
theorem dX12_read_73 : decode cX12_read 73 = .ok (.iaload, 1) := by decide +kernel
theorem dX12_read_74 : decode cX12_read 74 = .ok (.aload_n 0, 1) := by decide +kernel
theorem dX12_read_75 : decode cX12_read 75 = .ok (.getfield 16, 3) := by decide +kernel
theorem dX12_read_78 : decode cX12_read 78 = .ok (.iload 4, 2) := by decide +kernel
theorem dX12_read_80 : decode cX12_read 80 = .ok (.iconst 2, 1) := by decide +kernel
theorem dX12_read_81 : decode cX12_read 81 = .ok (.iadd, 1) := by decide +kernel
theorem dX12_read_82 : decode cX12_read 82 = .ok (.iaload, 1) := by decide +kernel
theorem dX12_read_83 : decode cX12_read 83 = .ok (.aload_n 0, 1) := by decide +kernel
theorem dX12_read_84 : decode cX12_read 84 = .ok (.getfield 16, 3) := by decide +kernel
theorem dX12_read_87 : decode cX12_read 87 = .ok (.iload 4, 2) := by decide +kernel
theorem dX12_read_89 : decode cX12_read 89 = .ok (.iconst 3, 1) := by decide +kernel
theorem dX12_read_90 : decode cX12_read 90 = .ok (.iadd, 1) := by decide +kernel
theorem dX12_read_91 : decode cX12_read 91 = .ok (.iaload, 1) := by decide +kernel
theorem dX12_read_92 : decode cX12_read 92 = .ok (.invokevirtual 186, 3) := by decide +kernel
theorem dX12_read_95 : decode cX12_read 95 = .ok (.ifCond .lt 7, 3) := by decide +kernel
theorem dX12_read_98 : decode cX12_read 98 = .ok (.iconst 1, 1) := by decide +kernel
theorem dX12_read_99 : decode cX12_read 99 = .ok (.goto 4, 3) := by decide +kernel
theorem dX12_read_102 : decode cX12_read 102 = .ok (.iconst 0, 1) := by decide +kernel
theorem dX12_read_103 : decode cX12_read 103 = .ok (.istore_n 3, 1) := by decide +kernel
theorem dX12_read_104 : decode cX12_read 104 = .ok (.iload_n 2, 1) := by decide +kernel
theorem dX12_read_105 : decode cX12_read 105 = .ok (.iload_n 3, 1) := by decide +kernel
theorem dX12_read_106 : decode cX12_read 106 = .ok (.ifCond .eq 7, 3) := by decide +kernel
theorem dX12_read_109 : decode cX12_read 109 = .ok (.iconst 1, 1) := by decide +kernel
theorem dX12_read_110 : decode cX12_read 110 = .ok (.goto 4, 3) := by decide +kernel
theorem dX12_read_113 : decode cX12_read 113 = .ok (.iconst 0, 1) := by decide +kernel
theorem dX12_read_114 : decode cX12_read 114 = .ok (.iadd, 1) := by decide +kernel
theorem dX12_read_115 : decode cX12_read 115 = .ok (.istore_n 2, 1) := by decide +kernel
theorem dX12_read_116 : decode cX12_read 116 = .ok (.goto (-87), 3) := by decide +kernel
theorem dX12_read_119 : decode cX12_read 119 = .ok (.iload_n 2, 1) := by decide +kernel
theorem dX12_read_120 : decode cX12_read 120 = .ok (.ireturn, 1) := by decide +kernel
theorem dX12_tone_0 : decode cX12_tone 0 = .ok (.aload_n 0, 1) := by decide +kernel
theorem dX12_tone_1 : decode cX12_tone 1 = .ok (.iload_n 1, 1) := by decide +kernel
theorem dX12_tone_2 : decode cX12_tone 2 = .ok (.invokevirtual 190, 3) := by decide +kernel
theorem dX12_tone_5 : decode cX12_tone 5 = .ok (.ifCond .eq 29, 3) := by decide +kernel
theorem dX12_tone_8 : decode cX12_tone 8 = .ok (.iload_n 2, 1) := by decide +kernel
theorem dX12_tone_9 : decode cX12_tone 9 = .ok (.i2l, 1) := by decide +kernel
theorem dX12_tone_10 : decode cX12_tone 10 = .ok (.lconst 0, 1) := by decide +kernel
theorem dX12_tone_11 : decode cX12_tone 11 = .ok (.ldc2_w 193, 3) := by decide +kernel
theorem dX12_tone_14 : decode cX12_tone 14 = .ok (.invokestatic 139, 3) := by decide +kernel
theorem dX12_tone_17 : decode cX12_tone 17 = .ok (.ifCond .eq 17, 3) := by decide +kernel
theorem dX12_tone_20 : decode cX12_tone 20 = .ok (.iload_n 3, 1) := by decide +kernel
theorem dX12_tone_21 : decode cX12_tone 21 = .ok (.i2l, 1) := by decide +kernel
theorem dX12_tone_22 : decode cX12_tone 22 = .ok (.ldc2_w 195, 3) := by decide +kernel
theorem dX12_tone_25 : decode cX12_tone 25 = .ok (.ldc2_w 178, 3) := by decide +kernel
theorem dX12_tone_28 : decode cX12_tone 28 = .ok (.invokestatic 139, 3) := by decide +kernel
theorem dX12_tone_31 : decode cX12_tone 31 = .ok (.ifCond .ne 7, 3) := by decide +kernel
theorem dX12_tone_34 : decode cX12_tone 34 = .ok (.sipush (-1000), 3) := by decide +kernel
theorem dX12_tone_37 : decode cX12_tone 37 = .ok (.ireturn, 1) := by decide +kernel
theorem dX12_tone_38 : decode cX12_tone 38 = .ok (.aload_n 0, 1) := by decide +kernel
theorem dX12_tone_39 : decode cX12_tone 39 = .ok (.getfield 37, 3) := by decide +kernel
theorem dX12_tone_42 : decode cX12_tone 42 = .ok (.iconst 5, 1) := by decide +kernel
theorem dX12_tone_43 : decode cX12_tone 43 = .ok (.iload_n 1, 1) := by decide +kernel
theorem dX12_tone_44 : decode cX12_tone 44 = .ok (.imul, 1) := by decide +kernel
theorem dX12_tone_45 : decode cX12_tone 45 = .ok (.iload_n 2, 1) := by decide +kernel
theorem dX12_tone_46 : decode cX12_tone 46 = .ok (.iadd, 1) := by decide +kernel
theorem dX12_tone_47 : decode cX12_tone 47 = .ok (.iaload, 1) := by decide +kernel
theorem dX12_tone_48 : decode cX12_tone 48 = .ok (.istore 4, 2) := by decide +kernel
theorem dX12_tone_50 : decode cX12_tone 50 = .ok (.aload_n 0, 1) := by decide +kernel
theorem dX12_tone_51 : decode cX12_tone 51 = .ok (.getfield 37, 3) := by decide +kernel
theorem dX12_tone_54 : decode cX12_tone 54 = .ok (.iconst 5, 1) := by decide +kernel
theorem dX12_tone_55 : decode cX12_tone 55 = .ok (.iload_n 1, 1) := by decide +kernel
theorem dX12_tone_56 : decode cX12_tone 56 = .ok (.imul, 1) := by decide +kernel
theorem dX12_tone_57 : decode cX12_tone 57 = .ok (.iload_n 2, 1) := by decide +kernel
theorem dX12_tone_58 : decode cX12_tone 58 = .ok (.iadd, 1) := by decide +kernel
theorem dX12_tone_59 : decode cX12_tone 59 = .ok (.iload_n 3, 1) := by decide +kernel
theorem dX12_tone_60 : decode cX12_tone 60 = .ok (.iastore, 1) := by decide +kernel
theorem dX12_tone_61 : decode cX12_tone 61 = .ok (.iload 4, 2) := by decide +kernel
theorem dX12_tone_63 : decode cX12_tone 63 = .ok (.ireturn, 1) := by decide +kernel
theorem dX12_wasIn_0 : decode cX12_wasIn 0 = .ok (.iconst 0, 1) := by decide +kernel
theorem dX12_wasIn_1 : decode cX12_wasIn 1 = .ok (.istore_n 3, 1) := by decide +kernel
theorem dX12_wasIn_2 : decode cX12_wasIn 2 = .ok (.iconst 0, 1) := by decide +kernel
theorem dX12_wasIn_3 : decode cX12_wasIn 3 = .ok (.istore 4, 2) := by decide +kernel
theorem dX12_wasIn_5 : decode cX12_wasIn 5 = .ok (.iload 4, 2) := by decide +kernel
theorem dX12_wasIn_7 : decode cX12_wasIn 7 = .ok (.aload_n 0, 1) := by decide +kernel
theorem dX12_wasIn_8 : decode cX12_wasIn 8 = .ok (.getfield 49, 3) := by decide +kernel
theorem dX12_wasIn_11 : decode cX12_wasIn 11 = .ok (.iload_n 1, 1) := by decide +kernel
theorem dX12_wasIn_12 : decode cX12_wasIn 12 = .ok (.iaload, 1) := by decide +kernel
theorem dX12_wasIn_13 : decode cX12_wasIn 13 = .ok (.if_icmp .ge 42, 3) := by decide +kernel
theorem dX12_wasIn_16 : decode cX12_wasIn 16 = .ok (.aload_n 0, 1) := by decide +kernel
theorem dX12_wasIn_17 : decode cX12_wasIn 17 = .ok (.getfield 55, 3) := by decide +kernel
theorem dX12_wasIn_20 : decode cX12_wasIn 20 = .ok (.bipush 16, 2) := by decide +kernel
theorem dX12_wasIn_22 : decode cX12_wasIn 22 = .ok (.iload_n 1, 1) := by decide +kernel
theorem dX12_wasIn_23 : decode cX12_wasIn 23 = .ok (.imul, 1) := by decide +kernel
theorem dX12_wasIn_24 : decode cX12_wasIn 24 = .ok (.iload 4, 2) := by decide +kernel
theorem dX12_wasIn_26 : decode cX12_wasIn 26 = .ok (.iadd, 1) := by decide +kernel
theorem dX12_wasIn_27 : decode cX12_wasIn 27 = .ok (.iaload, 1) := by decide +kernel
theorem dX12_wasIn_28 : decode cX12_wasIn 28 = .ok (.iload_n 2, 1) := by decide +kernel
theorem dX12_wasIn_29 : decode cX12_wasIn 29 = .ok (.if_icmp .gt 18, 3) := by decide +kernel
theorem dX12_wasIn_32 : decode cX12_wasIn 32 = .ok (.aload_n 0, 1) := by decide +kernel
theorem dX12_wasIn_33 : decode cX12_wasIn 33 = .ok (.getfield 52, 3) := by decide +kernel
theorem dX12_wasIn_36 : decode cX12_wasIn 36 = .ok (.bipush 16, 2) := by decide +kernel
theorem dX12_wasIn_38 : decode cX12_wasIn 38 = .ok (.iload_n 1, 1) := by decide +kernel
theorem dX12_wasIn_39 : decode cX12_wasIn 39 = .ok (.imul, 1) := by decide +kernel
theorem dX12_wasIn_40 : decode cX12_wasIn 40 = .ok (.iload 4, 2) := by decide +kernel
theorem dX12_wasIn_42 : decode cX12_wasIn 42 = .ok (.iadd, 1) := by decide +kernel
theorem dX12_wasIn_43 : decode cX12_wasIn 43 = .ok (.iaload, 1) := by decide +kernel
theorem dX12_wasIn_44 : decode cX12_wasIn 44 = .ok (.goto 4, 3) := by decide +kernel
theorem dX12_wasIn_47 : decode cX12_wasIn 47 = .ok (.iload_n 3, 1) := by decide +kernel
theorem dX12_wasIn_48 : decode cX12_wasIn 48 = .ok (.istore_n 3, 1) := by decide +kernel
theorem dX12_wasIn_49 : decode cX12_wasIn 49 = .ok (.iinc 4 1, 3) := by decide +kernel
theorem dX12_wasIn_52 : decode cX12_wasIn 52 = .ok (.goto (-47), 3) := by decide +kernel
theorem dX12_wasIn_55 : decode cX12_wasIn 55 = .ok (.iload_n 3, 1) := by decide +kernel
theorem dX12_wasIn_56 : decode cX12_wasIn 56 = .ok (.ireturn, 1) := by decide +kernel
theorem dX12_stateOf_0 : decode cX12_stateOf 0 = .ok (.aload_n 0, 1) := by decide +kernel
theorem dX12_stateOf_1 : decode cX12_stateOf 1 = .ok (.iload_n 1, 1) := by decide +kernel
theorem dX12_stateOf_2 : decode cX12_stateOf 2 = .ok (.aload_n 0, 1) := by decide +kernel
theorem dX12_stateOf_3 : decode cX12_stateOf 3 = .ok (.getfield 172, 3) := by decide +kernel
theorem dX12_stateOf_6 : decode cX12_stateOf 6 = .ok (.invokevirtual 197, 3) := by decide +kernel
theorem dX12_stateOf_9 : decode cX12_stateOf 9 = .ok (.ireturn, 1) := by decide +kernel
theorem dX12_about_0 : decode cX12_about 0 = .ok (.aload_n 0, 1) := by decide +kernel
theorem dX12_about_1 : decode cX12_about 1 = .ok (.iload_n 1, 1) := by decide +kernel
theorem dX12_about_2 : decode cX12_about 2 = .ok (.invokevirtual 190, 3) := by decide +kernel
theorem dX12_about_5 : decode cX12_about 5 = .ok (.ifCond .ne 7, 3) := by decide +kernel
theorem dX12_about_8 : decode cX12_about 8 = .ok (.sipush (-1000), 3) := by decide +kernel
theorem dX12_about_11 : decode cX12_about 11 = .ok (.ireturn, 1) := by decide +kernel
theorem dX12_about_12 : decode cX12_about 12 = .ok (.iload_n 2, 1) := by decide +kernel
theorem dX12_about_13 : decode cX12_about 13 = .ok (.tableswitch 113 0 8 #[51, 58, 65, 72, 79, 85, 92, 99, 106], 51) := by decide +kernel
theorem dX12_about_64 : decode cX12_about 64 = .ok (.aload_n 0, 1) := by decide +kernel
theorem dX12_about_65 : decode cX12_about 65 = .ok (.getfield 25, 3) := by decide +kernel
theorem dX12_about_68 : decode cX12_about 68 = .ok (.iload_n 1, 1) := by decide +kernel
theorem dX12_about_69 : decode cX12_about 69 = .ok (.iaload, 1) := by decide +kernel
theorem dX12_about_70 : decode cX12_about 70 = .ok (.ireturn, 1) := by decide +kernel
theorem dX12_about_71 : decode cX12_about 71 = .ok (.aload_n 0, 1) := by decide +kernel
theorem dX12_about_72 : decode cX12_about 72 = .ok (.getfield 28, 3) := by decide +kernel
theorem dX12_about_75 : decode cX12_about 75 = .ok (.iload_n 1, 1) := by decide +kernel
theorem dX12_about_76 : decode cX12_about 76 = .ok (.iaload, 1) := by decide +kernel
theorem dX12_about_77 : decode cX12_about 77 = .ok (.ireturn, 1) := by decide +kernel
theorem dX12_about_78 : decode cX12_about 78 = .ok (.aload_n 0, 1) := by decide +kernel
theorem dX12_about_79 : decode cX12_about 79 = .ok (.getfield 31, 3) := by decide +kernel
theorem dX12_about_82 : decode cX12_about 82 = .ok (.iload_n 1, 1) := by decide +kernel
theorem dX12_about_83 : decode cX12_about 83 = .ok (.iaload, 1) := by decide +kernel
theorem dX12_about_84 : decode cX12_about 84 = .ok (.ireturn, 1) := by decide +kernel
theorem dX12_about_85 : decode cX12_about 85 = .ok (.aload_n 0, 1) := by decide +kernel
theorem dX12_about_86 : decode cX12_about 86 = .ok (.getfield 34, 3) := by decide +kernel
theorem dX12_about_89 : decode cX12_about 89 = .ok (.iload_n 1, 1) := by decide +kernel
theorem dX12_about_90 : decode cX12_about 90 = .ok (.iaload, 1) := by decide +kernel
theorem dX12_about_91 : decode cX12_about 91 = .ok (.ireturn, 1) := by decide +kernel
theorem dX12_about_92 : decode cX12_about 92 = .ok (.aload_n 0, 1) := by decide +kernel
theorem dX12_about_93 : decode cX12_about 93 = .ok (.iload_n 1, 1) := by decide +kernel
theorem dX12_about_94 : decode cX12_about 94 = .ok (.invokevirtual 200, 3) := by decide +kernel
theorem dX12_about_97 : decode cX12_about 97 = .ok (.ireturn, 1) := by decide +kernel
theorem dX12_about_98 : decode cX12_about 98 = .ok (.aload_n 0, 1) := by decide +kernel
theorem dX12_about_99 : decode cX12_about 99 = .ok (.getfield 40, 3) := by decide +kernel
theorem dX12_about_102 : decode cX12_about 102 = .ok (.iload_n 1, 1) := by decide +kernel
theorem dX12_about_103 : decode cX12_about 103 = .ok (.iaload, 1) := by decide +kernel
theorem dX12_about_104 : decode cX12_about 104 = .ok (.ireturn, 1) := by decide +kernel
theorem dX12_about_105 : decode cX12_about 105 = .ok (.aload_n 0, 1) := by decide +kernel
theorem dX12_about_106 : decode cX12_about 106 = .ok (.getfield 49, 3) := by decide +kernel
theorem dX12_about_109 : decode cX12_about 109 = .ok (.iload_n 1, 1) := by decide +kernel
theorem dX12_about_110 : decode cX12_about 110 = .ok (.iaload, 1) := by decide +kernel
theorem dX12_about_111 : decode cX12_about 111 = .ok (.ireturn, 1) := by decide +kernel
theorem dX12_about_112 : decode cX12_about 112 = .ok (.aload_n 0, 1) := by decide +kernel
theorem dX12_about_113 : decode cX12_about 113 = .ok (.getfield 43, 3) := by decide +kernel
theorem dX12_about_116 : decode cX12_about 116 = .ok (.iload_n 1, 1) := by decide +kernel
theorem dX12_about_117 : decode cX12_about 117 = .ok (.iaload, 1) := by decide +kernel
theorem dX12_about_118 : decode cX12_about 118 = .ok (.ireturn, 1) := by decide +kernel
theorem dX12_about_119 : decode cX12_about 119 = .ok (.aload_n 0, 1) := by decide +kernel
theorem dX12_about_120 : decode cX12_about 120 = .ok (.getfield 46, 3) := by decide +kernel
theorem dX12_about_123 : decode cX12_about 123 = .ok (.iload_n 1, 1) := by decide +kernel
theorem dX12_about_124 : decode cX12_about 124 = .ok (.iaload, 1) := by decide +kernel
theorem dX12_about_125 : decode cX12_about 125 = .ok (.ireturn, 1) := by decide +kernel
theorem dX12_about_126 : decode cX12_about 126 = .ok (.sipush (-1000), 3) := by decide +kernel
theorem dX12_about_129 : decode cX12_about 129 = .ok (.ireturn, 1) := by decide +kernel
theorem dX12_may_0 : decode cX12_may 0 = .ok (.iload_n 1, 1) := by decide +kernel
theorem dX12_may_1 : decode cX12_may 1 = .ok (.ifCond .ne 14, 3) := by decide +kernel
theorem dX12_may_4 : decode cX12_may 4 = .ok (.iload_n 0, 1) := by decide +kernel
theorem dX12_may_5 : decode cX12_may 5 = .ok (.iconst 1, 1) := by decide +kernel
theorem dX12_may_6 : decode cX12_may 6 = .ok (.if_icmp .ne 7, 3) := by decide +kernel
theorem dX12_may_9 : decode cX12_may 9 = .ok (.iconst 1, 1) := by decide +kernel
theorem dX12_may_10 : decode cX12_may 10 = .ok (.goto 4, 3) := by decide +kernel
theorem dX12_may_13 : decode cX12_may 13 = .ok (.iconst 0, 1) := by decide +kernel
theorem dX12_may_14 : decode cX12_may 14 = .ok (.ireturn, 1) := by decide +kernel
theorem dX12_may_15 : decode cX12_may 15 = .ok (.iload_n 1, 1) := by decide +kernel
theorem dX12_may_16 : decode cX12_may 16 = .ok (.iconst 1, 1) := by decide +kernel
theorem dX12_may_17 : decode cX12_may 17 = .ok (.if_icmp .ne 18, 3) := by decide +kernel
theorem dX12_may_20 : decode cX12_may 20 = .ok (.iload_n 0, 1) := by decide +kernel
theorem dX12_may_21 : decode cX12_may 21 = .ok (.ifCond .eq 8, 3) := by decide +kernel
theorem dX12_may_24 : decode cX12_may 24 = .ok (.iload_n 0, 1) := by decide +kernel
theorem dX12_may_25 : decode cX12_may 25 = .ok (.iconst 5, 1) := by decide +kernel
theorem dX12_may_26 : decode cX12_may 26 = .ok (.if_icmp .ne 7, 3) := by decide +kernel
theorem dX12_may_29 : decode cX12_may 29 = .ok (.iconst 1, 1) := by decide +kernel
theorem dX12_may_30 : decode cX12_may 30 = .ok (.goto 4, 3) := by decide +kernel
theorem dX12_may_33 : decode cX12_may 33 = .ok (.iconst 0, 1) := by decide +kernel
theorem dX12_may_34 : decode cX12_may 34 = .ok (.ireturn, 1) := by decide +kernel
theorem dX12_may_35 : decode cX12_may 35 = .ok (.iload_n 1, 1) := by decide +kernel
theorem dX12_may_36 : decode cX12_may 36 = .ok (.iconst 2, 1) := by decide +kernel
theorem dX12_may_37 : decode cX12_may 37 = .ok (.if_icmp .ne 23, 3) := by decide +kernel
theorem dX12_may_40 : decode cX12_may 40 = .ok (.iload_n 0, 1) := by decide +kernel
theorem dX12_may_41 : decode cX12_may 41 = .ok (.ifCond .eq 13, 3) := by decide +kernel
theorem dX12_may_44 : decode cX12_may 44 = .ok (.iload_n 0, 1) := by decide +kernel
theorem dX12_may_45 : decode cX12_may 45 = .ok (.iconst 1, 1) := by decide +kernel
theorem dX12_may_46 : decode cX12_may 46 = .ok (.if_icmp .eq 8, 3) := by decide +kernel
theorem dX12_may_49 : decode cX12_may 49 = .ok (.iload_n 0, 1) := by decide +kernel
theorem dX12_may_50 : decode cX12_may 50 = .ok (.iconst 5, 1) := by decide +kernel
theorem dX12_may_51 : decode cX12_may 51 = .ok (.if_icmp .ne 7, 3) := by decide +kernel
theorem dX12_may_54 : decode cX12_may 54 = .ok (.iconst 1, 1) := by decide +kernel
theorem dX12_may_55 : decode cX12_may 55 = .ok (.goto 4, 3) := by decide +kernel
theorem dX12_may_58 : decode cX12_may 58 = .ok (.iconst 0, 1) := by decide +kernel
theorem dX12_may_59 : decode cX12_may 59 = .ok (.ireturn, 1) := by decide +kernel
theorem dX12_may_60 : decode cX12_may 60 = .ok (.iload_n 1, 1) := by decide +kernel
theorem dX12_may_61 : decode cX12_may 61 = .ok (.iconst 3, 1) := by decide +kernel
theorem dX12_may_62 : decode cX12_may 62 = .ok (.if_icmp .ne 16, 3) := by decide +kernel
theorem dX12_may_65 : decode cX12_may 65 = .ok (.iload_n 0, 1) := by decide +kernel
theorem dX12_may_66 : decode cX12_may 66 = .ok (.iconst 2, 1) := by decide +kernel
theorem dX12_may_67 : decode cX12_may 67 = .ok (.if_icmp .ne 7, 3) := by decide +kernel
theorem dX12_may_70 : decode cX12_may 70 = .ok (.iconst 1, 1) := by decide +kernel
theorem dX12_may_71 : decode cX12_may 71 = .ok (.goto 17, 3) := by decide +kernel
theorem dX12_may_74 : decode cX12_may 74 = .ok (.iconst 0, 1) := by decide +kernel
theorem dX12_may_75 : decode cX12_may 75 = .ok (.goto 13, 3) := by decide +kernel
theorem dX12_may_78 : decode cX12_may 78 = .ok (.iload_n 0, 1) := by decide +kernel
theorem dX12_may_79 : decode cX12_may 79 = .ok (.iconst 3, 1) := by decide +kernel
theorem dX12_may_80 : decode cX12_may 80 = .ok (.if_icmp .ne 7, 3) := by decide +kernel
theorem dX12_may_83 : decode cX12_may 83 = .ok (.iconst 1, 1) := by decide +kernel
theorem dX12_may_84 : decode cX12_may 84 = .ok (.goto 4, 3) := by decide +kernel
theorem dX12_may_87 : decode cX12_may 87 = .ok (.iconst 0, 1) := by decide +kernel
theorem dX12_may_88 : decode cX12_may 88 = .ok (.ireturn, 1) := by decide +kernel
theorem dX12_become_0 : decode cX12_become 0 = .ok (.aload_n 0, 1) := by decide +kernel
theorem dX12_become_1 : decode cX12_become 1 = .ok (.iload_n 1, 1) := by decide +kernel
theorem dX12_become_2 : decode cX12_become 2 = .ok (.invokevirtual 190, 3) := by decide +kernel
theorem dX12_become_5 : decode cX12_become 5 = .ok (.ifCond .eq 15, 3) := by decide +kernel
theorem dX12_become_8 : decode cX12_become 8 = .ok (.iload_n 2, 1) := by decide +kernel
theorem dX12_become_9 : decode cX12_become 9 = .ok (.i2l, 1) := by decide +kernel
theorem dX12_become_10 : decode cX12_become 10 = .ok (.lconst 0, 1) := by decide +kernel
theorem dX12_become_11 : decode cX12_become 11 = .ok (.ldc2_w 203, 3) := by decide +kernel
theorem dX12_become_14 : decode cX12_become 14 = .ok (.invokestatic 139, 3) := by decide +kernel
theorem dX12_become_17 : decode cX12_become 17 = .ok (.ifCond .ne 6, 3) := by decide +kernel
theorem dX12_become_20 : decode cX12_become 20 = .ok (.bipush (-2), 2) := by decide +kernel
theorem dX12_become_22 : decode cX12_become 22 = .ok (.ireturn, 1) := by decide +kernel
theorem dX12_become_23 : decode cX12_become 23 = .ok (.aload_n 0, 1) := by decide +kernel
theorem dX12_become_24 : decode cX12_become 24 = .ok (.iload_n 1, 1) := by decide +kernel
theorem dX12_become_25 : decode cX12_become 25 = .ok (.invokevirtual 200, 3) := by decide +kernel
theorem dX12_become_28 : decode cX12_become 28 = .ok (.istore_n 3, 1) := by decide +kernel
theorem dX12_become_29 : decode cX12_become 29 = .ok (.iload_n 3, 1) := by decide +kernel
theorem dX12_become_30 : decode cX12_become 30 = .ok (.iload_n 2, 1) := by decide +kernel
theorem dX12_become_31 : decode cX12_become 31 = .ok (.invokestatic 205, 3) := by decide +kernel
theorem dX12_become_34 : decode cX12_become 34 = .ok (.ifCond .ne 6, 3) := by decide +kernel
theorem dX12_become_37 : decode cX12_become 37 = .ok (.bipush (-3), 2) := by decide +kernel
theorem dX12_become_39 : decode cX12_become 39 = .ok (.ireturn, 1) := by decide +kernel
theorem dX12_become_40 : decode cX12_become 40 = .ok (.aload_n 0, 1) := by decide +kernel
theorem dX12_become_41 : decode cX12_become 41 = .ok (.getfield 49, 3) := by decide +kernel
theorem dX12_become_44 : decode cX12_become 44 = .ok (.iload_n 1, 1) := by decide +kernel
theorem dX12_become_45 : decode cX12_become 45 = .ok (.iaload, 1) := by decide +kernel
theorem dX12_become_46 : decode cX12_become 46 = .ok (.bipush 16, 2) := by decide +kernel
theorem dX12_become_48 : decode cX12_become 48 = .ok (.if_icmp .ne 6, 3) := by decide +kernel
theorem dX12_become_51 : decode cX12_become 51 = .ok (.bipush (-4), 2) := by decide +kernel
theorem dX12_become_53 : decode cX12_become 53 = .ok (.ireturn, 1) := by decide +kernel
theorem dX12_become_54 : decode cX12_become 54 = .ok (.aload_n 0, 1) := by decide +kernel
theorem dX12_become_55 : decode cX12_become 55 = .ok (.getfield 52, 3) := by decide +kernel
theorem dX12_become_58 : decode cX12_become 58 = .ok (.bipush 16, 2) := by decide +kernel
theorem dX12_become_60 : decode cX12_become 60 = .ok (.iload_n 1, 1) := by decide +kernel
theorem dX12_become_61 : decode cX12_become 61 = .ok (.imul, 1) := by decide +kernel
theorem dX12_become_62 : decode cX12_become 62 = .ok (.aload_n 0, 1) := by decide +kernel
theorem dX12_become_63 : decode cX12_become 63 = .ok (.getfield 49, 3) := by decide +kernel
theorem dX12_become_66 : decode cX12_become 66 = .ok (.iload_n 1, 1) := by decide +kernel
theorem dX12_become_67 : decode cX12_become 67 = .ok (.iaload, 1) := by decide +kernel
theorem dX12_become_68 : decode cX12_become 68 = .ok (.iadd, 1) := by decide +kernel
theorem dX12_become_69 : decode cX12_become 69 = .ok (.iload_n 2, 1) := by decide +kernel
theorem dX12_become_70 : decode cX12_become 70 = .ok (.iastore, 1) := by decide +kernel
theorem dX12_become_71 : decode cX12_become 71 = .ok (.aload_n 0, 1) := by decide +kernel
theorem dX12_become_72 : decode cX12_become 72 = .ok (.getfield 55, 3) := by decide +kernel
theorem dX12_become_75 : decode cX12_become 75 = .ok (.bipush 16, 2) := by decide +kernel
theorem dX12_become_77 : decode cX12_become 77 = .ok (.iload_n 1, 1) := by decide +kernel
theorem dX12_become_78 : decode cX12_become 78 = .ok (.imul, 1) := by decide +kernel
theorem dX12_become_79 : decode cX12_become 79 = .ok (.aload_n 0, 1) := by decide +kernel
theorem dX12_become_80 : decode cX12_become 80 = .ok (.getfield 49, 3) := by decide +kernel
theorem dX12_become_83 : decode cX12_become 83 = .ok (.iload_n 1, 1) := by decide +kernel
theorem dX12_become_84 : decode cX12_become 84 = .ok (.iaload, 1) := by decide +kernel
theorem dX12_become_85 : decode cX12_become 85 = .ok (.iadd, 1) := by decide +kernel
theorem dX12_become_86 : decode cX12_become 86 = .ok (.aload_n 0, 1) := by decide +kernel
theorem dX12_become_87 : decode cX12_become 87 = .ok (.getfield 172, 3) := by decide +kernel
theorem dX12_become_90 : decode cX12_become 90 = .ok (.iastore, 1) := by decide +kernel
theorem dX12_become_91 : decode cX12_become 91 = .ok (.aload_n 0, 1) := by decide +kernel
theorem dX12_become_92 : decode cX12_become 92 = .ok (.getfield 49, 3) := by decide +kernel
theorem dX12_become_95 : decode cX12_become 95 = .ok (.iload_n 1, 1) := by decide +kernel
theorem dX12_become_96 : decode cX12_become 96 = .ok (.dup2, 1) := by decide +kernel
theorem dX12_become_97 : decode cX12_become 97 = .ok (.iaload, 1) := by decide +kernel
theorem dX12_become_98 : decode cX12_become 98 = .ok (.iconst 1, 1) := by decide +kernel
theorem dX12_become_99 : decode cX12_become 99 = .ok (.iadd, 1) := by decide +kernel
theorem dX12_become_100 : decode cX12_become 100 = .ok (.iastore, 1) := by decide +kernel
theorem dX12_become_101 : decode cX12_become 101 = .ok (.iload_n 3, 1) := by decide +kernel
theorem dX12_become_102 : decode cX12_become 102 = .ok (.ireturn, 1) := by decide +kernel
theorem dX12_was_0 : decode cX12_was 0 = .ok (.aload_n 0, 1) := by decide +kernel
theorem dX12_was_1 : decode cX12_was 1 = .ok (.iload_n 1, 1) := by decide +kernel
theorem dX12_was_2 : decode cX12_was 2 = .ok (.invokevirtual 190, 3) := by decide +kernel
theorem dX12_was_5 : decode cX12_was 5 = .ok (.ifCond .eq 26, 3) := by decide +kernel
theorem dX12_was_8 : decode cX12_was 8 = .ok (.iload_n 2, 1) := by decide +kernel
theorem dX12_was_9 : decode cX12_was 9 = .ok (.i2l, 1) := by decide +kernel
theorem dX12_was_10 : decode cX12_was 10 = .ok (.lconst 0, 1) := by decide +kernel
theorem dX12_was_11 : decode cX12_was 11 = .ok (.aload_n 0, 1) := by decide +kernel
theorem dX12_was_12 : decode cX12_was 12 = .ok (.getfield 172, 3) := by decide +kernel
theorem dX12_was_15 : decode cX12_was 15 = .ok (.i2l, 1) := by decide +kernel
theorem dX12_was_16 : decode cX12_was 16 = .ok (.invokestatic 139, 3) := by decide +kernel
theorem dX12_was_19 : decode cX12_was 19 = .ok (.ifCond .eq 12, 3) := by decide +kernel
theorem dX12_was_22 : decode cX12_was 22 = .ok (.aload_n 0, 1) := by decide +kernel
theorem dX12_was_23 : decode cX12_was 23 = .ok (.iload_n 1, 1) := by decide +kernel
theorem dX12_was_24 : decode cX12_was 24 = .ok (.iload_n 2, 1) := by decide +kernel
theorem dX12_was_25 : decode cX12_was 25 = .ok (.invokevirtual 197, 3) := by decide +kernel
theorem dX12_was_28 : decode cX12_was 28 = .ok (.goto 5, 3) := by decide +kernel
theorem dX12_was_31 : decode cX12_was 31 = .ok (.bipush (-2), 2) := by decide +kernel
theorem dX12_was_33 : decode cX12_was 33 = .ok (.ireturn, 1) := by decide +kernel
theorem dX12_type_0 : decode cX12_type 0 = .ok (.iload_n 1, 1) := by decide +kernel
theorem dX12_type_1 : decode cX12_type 1 = .ok (.i2l, 1) := by decide +kernel
theorem dX12_type_2 : decode cX12_type 2 = .ok (.lconst 0, 1) := by decide +kernel
theorem dX12_type_3 : decode cX12_type 3 = .ok (.ldc2_w 209, 3) := by decide +kernel
theorem dX12_type_6 : decode cX12_type 6 = .ok (.invokestatic 139, 3) := by decide +kernel
theorem dX12_type_9 : decode cX12_type 9 = .ok (.ifCond .ne 6, 3) := by decide +kernel
theorem dX12_type_12 : decode cX12_type 12 = .ok (.bipush (-2), 2) := by decide +kernel
theorem dX12_type_14 : decode cX12_type 14 = .ok (.ireturn, 1) := by decide +kernel
theorem dX12_type_15 : decode cX12_type 15 = .ok (.aload_n 0, 1) := by decide +kernel
theorem dX12_type_16 : decode cX12_type 16 = .ok (.getfield 211, 3) := by decide +kernel
theorem dX12_type_19 : decode cX12_type 19 = .ok (.bipush 100, 2) := by decide +kernel
theorem dX12_type_21 : decode cX12_type 21 = .ok (.if_icmp .ne 6, 3) := by decide +kernel
theorem dX12_type_24 : decode cX12_type 24 = .ok (.bipush (-4), 2) := by decide +kernel
theorem dX12_type_26 : decode cX12_type 26 = .ok (.ireturn, 1) := by decide +kernel
theorem dX12_type_27 : decode cX12_type 27 = .ok (.aload_n 0, 1) := by decide +kernel
theorem dX12_type_28 : decode cX12_type 28 = .ok (.getfield 58, 3) := by decide +kernel
theorem dX12_type_31 : decode cX12_type 31 = .ok (.aload_n 0, 1) := by decide +kernel
theorem dX12_type_32 : decode cX12_type 32 = .ok (.getfield 211, 3) := by decide +kernel
theorem dX12_type_35 : decode cX12_type 35 = .ok (.iload_n 1, 1) := by decide +kernel
theorem dX12_type_36 : decode cX12_type 36 = .ok (.iastore, 1) := by decide +kernel
theorem dX12_type_37 : decode cX12_type 37 = .ok (.aload_n 0, 1) := by decide +kernel
theorem dX12_type_38 : decode cX12_type 38 = .ok (.dup, 1) := by decide +kernel
theorem dX12_type_39 : decode cX12_type 39 = .ok (.getfield 211, 3) := by decide +kernel
theorem dX12_type_42 : decode cX12_type 42 = .ok (.iconst 1, 1) := by decide +kernel
theorem dX12_type_43 : decode cX12_type 43 = .ok (.iadd, 1) := by decide +kernel
theorem dX12_type_44 : decode cX12_type 44 = .ok (.putfield 211, 3) := by decide +kernel
theorem dX12_type_47 : decode cX12_type 47 = .ok (.aload_n 0, 1) := by decide +kernel
theorem dX12_type_48 : decode cX12_type 48 = .ok (.getfield 211, 3) := by decide +kernel
theorem dX12_type_51 : decode cX12_type 51 = .ok (.ireturn, 1) := by decide +kernel
theorem dX12_wipe_0 : decode cX12_wipe 0 = .ok (.aload_n 0, 1) := by decide +kernel
theorem dX12_wipe_1 : decode cX12_wipe 1 = .ok (.getfield 211, 3) := by decide +kernel
theorem dX12_wipe_4 : decode cX12_wipe 4 = .ok (.istore_n 1, 1) := by decide +kernel
theorem dX12_wipe_5 : decode cX12_wipe 5 = .ok (.aload_n 0, 1) := by decide +kernel
theorem dX12_wipe_6 : decode cX12_wipe 6 = .ok (.iconst 0, 1) := by decide +kernel
theorem dX12_wipe_7 : decode cX12_wipe 7 = .ok (.putfield 211, 3) := by decide +kernel
theorem dX12_wipe_10 : decode cX12_wipe 10 = .ok (.iload_n 1, 1) := by decide +kernel
theorem dX12_wipe_11 : decode cX12_wipe 11 = .ok (.ireturn, 1) := by decide +kernel
theorem dX12_must_0 : decode cX12_must 0 = .ok (.aload_n 0, 1) := by decide +kernel
theorem dX12_must_1 : decode cX12_must 1 = .ok (.getfield 214, 3) := by decide +kernel
theorem dX12_must_4 : decode cX12_must 4 = .ok (.aload_n 0, 1) := by decide +kernel
theorem dX12_must_5 : decode cX12_must 5 = .ok (.getfield 211, 3) := by decide +kernel
theorem dX12_must_8 : decode cX12_must 8 = .ok (.if_icmp .ge 20, 3) := by decide +kernel
theorem dX12_must_11 : decode cX12_must 11 = .ok (.aload_n 0, 1) := by decide +kernel
theorem dX12_must_12 : decode cX12_must 12 = .ok (.getfield 58, 3) := by decide +kernel
theorem dX12_must_15 : decode cX12_must 15 = .ok (.aload_n 0, 1) := by decide +kernel
theorem dX12_must_16 : decode cX12_must 16 = .ok (.getfield 214, 3) := by decide +kernel
theorem dX12_must_19 : decode cX12_must 19 = .ok (.iaload, 1) := by decide +kernel
theorem dX12_must_20 : decode cX12_must 20 = .ok (.iload_n 1, 1) := by decide +kernel
theorem dX12_must_21 : decode cX12_must 21 = .ok (.if_icmp .ne 7, 3) := by decide +kernel
theorem dX12_must_24 : decode cX12_must 24 = .ok (.iconst 1, 1) := by decide +kernel
theorem dX12_must_25 : decode cX12_must 25 = .ok (.goto 4, 3) := by decide +kernel
theorem dX12_must_28 : decode cX12_must 28 = .ok (.iconst 0, 1) := by decide +kernel
theorem dX12_must_29 : decode cX12_must 29 = .ok (.istore_n 2, 1) := by decide +kernel
theorem dX12_must_30 : decode cX12_must 30 = .ok (.aload_n 0, 1) := by decide +kernel
theorem dX12_must_31 : decode cX12_must 31 = .ok (.dup, 1) := by decide +kernel
theorem dX12_must_32 : decode cX12_must 32 = .ok (.getfield 214, 3) := by decide +kernel
theorem dX12_must_35 : decode cX12_must 35 = .ok (.iload_n 2, 1) := by decide +kernel
theorem dX12_must_36 : decode cX12_must 36 = .ok (.ifCond .eq 7, 3) := by decide +kernel
theorem dX12_must_39 : decode cX12_must 39 = .ok (.iconst 1, 1) := by decide +kernel
theorem dX12_must_40 : decode cX12_must 40 = .ok (.goto 4, 3) := by decide +kernel
theorem dX12_must_43 : decode cX12_must 43 = .ok (.iconst 0, 1) := by decide +kernel
theorem dX12_must_44 : decode cX12_must 44 = .ok (.iadd, 1) := by decide +kernel
theorem dX12_must_45 : decode cX12_must 45 = .ok (.putfield 214, 3) := by decide +kernel
theorem dX12_must_48 : decode cX12_must 48 = .ok (.iload_n 2, 1) := by decide +kernel
theorem dX12_must_49 : decode cX12_must 49 = .ok (.ireturn, 1) := by decide +kernel
theorem dX12_number_0 : decode cX12_number 0 = .ok (.aload_n 0, 1) := by decide +kernel
theorem dX12_number_1 : decode cX12_number 1 = .ok (.getfield 214, 3) := by decide +kernel
theorem dX12_number_4 : decode cX12_number 4 = .ok (.istore 5, 2) := by decide +kernel
theorem dX12_number_6 : decode cX12_number 6 = .ok (.iconst 0, 1) := by decide +kernel
theorem dX12_number_7 : decode cX12_number 7 = .ok (.istore 6, 2) := by decide +kernel
theorem dX12_number_9 : decode cX12_number 9 = .ok (.aload_n 0, 1) := by decide +kernel
theorem dX12_number_10 : decode cX12_number 10 = .ok (.getfield 214, 3) := by decide +kernel
theorem dX12_number_13 : decode cX12_number 13 = .ok (.aload_n 0, 1) := by decide +kernel
theorem dX12_number_14 : decode cX12_number 14 = .ok (.getfield 211, 3) := by decide +kernel
theorem dX12_number_17 : decode cX12_number 17 = .ok (.if_icmp .ge 69, 3) := by decide +kernel
theorem dX12_number_20 : decode cX12_number 20 = .ok (.aload_n 0, 1) := by decide +kernel
theorem dX12_number_21 : decode cX12_number 21 = .ok (.getfield 214, 3) := by decide +kernel
theorem dX12_number_24 : decode cX12_number 24 = .ok (.iload 5, 2) := by decide +kernel
theorem dX12_number_26 : decode cX12_number 26 = .ok (.iload_n 2, 1) := by decide +kernel
theorem dX12_number_27 : decode cX12_number 27 = .ok (.iadd, 1) := by decide +kernel
theorem dX12_number_28 : decode cX12_number 28 = .ok (.if_icmp .ge 58, 3) := by decide +kernel
theorem dX12_number_31 : decode cX12_number 31 = .ok (.aload_n 0, 1) := by decide +kernel
theorem dX12_number_32 : decode cX12_number 32 = .ok (.getfield 58, 3) := by decide +kernel
theorem dX12_number_35 : decode cX12_number 35 = .ok (.aload_n 0, 1) := by decide +kernel
theorem dX12_number_36 : decode cX12_number 36 = .ok (.getfield 214, 3) := by decide +kernel
theorem dX12_number_39 : decode cX12_number 39 = .ok (.iaload, 1) := by decide +kernel
theorem dX12_number_40 : decode cX12_number 40 = .ok (.i2l, 1) := by decide +kernel
theorem dX12_number_41 : decode cX12_number 41 = .ok (.ldc2_w 217, 3) := by decide +kernel
theorem dX12_number_44 : decode cX12_number 44 = .ok (.ldc2_w 219, 3) := by decide +kernel
theorem dX12_number_47 : decode cX12_number 47 = .ok (.invokestatic 139, 3) := by decide +kernel
theorem dX12_number_50 : decode cX12_number 50 = .ok (.ifCond .eq 36, 3) := by decide +kernel
theorem dX12_number_53 : decode cX12_number 53 = .ok (.bipush 10, 2) := by decide +kernel
theorem dX12_number_55 : decode cX12_number 55 = .ok (.iload 6, 2) := by decide +kernel
theorem dX12_number_57 : decode cX12_number 57 = .ok (.imul, 1) := by decide +kernel
theorem dX12_number_58 : decode cX12_number 58 = .ok (.aload_n 0, 1) := by decide +kernel
theorem dX12_number_59 : decode cX12_number 59 = .ok (.getfield 58, 3) := by decide +kernel
theorem dX12_number_62 : decode cX12_number 62 = .ok (.aload_n 0, 1) := by decide +kernel
theorem dX12_number_63 : decode cX12_number 63 = .ok (.getfield 214, 3) := by decide +kernel
theorem dX12_number_66 : decode cX12_number 66 = .ok (.iaload, 1) := by decide +kernel
theorem dX12_number_67 : decode cX12_number 67 = .ok (.iadd, 1) := by decide +kernel
theorem dX12_number_68 : decode cX12_number 68 = .ok (.bipush 48, 2) := by decide +kernel
theorem dX12_number_70 : decode cX12_number 70 = .ok (.isub, 1) := by decide +kernel
theorem dX12_number_71 : decode cX12_number 71 = .ok (.istore 6, 2) := by decide +kernel
theorem dX12_number_73 : decode cX12_number 73 = .ok (.aload_n 0, 1) := by decide +kernel
theorem dX12_number_74 : decode cX12_number 74 = .ok (.dup, 1) := by decide +kernel
theorem dX12_number_75 : decode cX12_number 75 = .ok (.getfield 214, 3) := by decide +kernel
theorem dX12_number_78 : decode cX12_number 78 = .ok (.iconst 1, 1) := by decide +kernel
theorem dX12_number_79 : decode cX12_number 79 = .ok (.iadd, 1) := by decide +kernel
theorem dX12_number_80 : decode cX12_number 80 = .ok (.putfield 214, 3) := by decide +kernel
theorem dX12_number_83 : decode cX12_number 83 = .ok (.goto (-74), 3) := by decide +kernel
theorem dX12_number_86 : decode cX12_number 86 = .ok (.aload_n 0, 1) := by decide +kernel
theorem dX12_number_87 : decode cX12_number 87 = .ok (.getfield 214, 3) := by decide +kernel
theorem dX12_number_90 : decode cX12_number 90 = .ok (.iload 5, 2) := by decide +kernel
theorem dX12_number_92 : decode cX12_number 92 = .ok (.iload_n 1, 1) := by decide +kernel
theorem dX12_number_93 : decode cX12_number 93 = .ok (.iadd, 1) := by decide +kernel
theorem dX12_number_94 : decode cX12_number 94 = .ok (.if_icmp .ge 5, 3) := by decide +kernel
theorem dX12_number_97 : decode cX12_number 97 = .ok (.iconst (-1), 1) := by decide +kernel
theorem dX12_number_98 : decode cX12_number 98 = .ok (.ireturn, 1) := by decide +kernel
theorem dX12_number_99 : decode cX12_number 99 = .ok (.iload 6, 2) := by decide +kernel
theorem dX12_number_101 : decode cX12_number 101 = .ok (.i2l, 1) := by decide +kernel
theorem dX12_number_102 : decode cX12_number 102 = .ok (.iload_n 3, 1) := by decide +kernel
theorem dX12_number_103 : decode cX12_number 103 = .ok (.i2l, 1) := by decide +kernel
theorem dX12_number_104 : decode cX12_number 104 = .ok (.iload 4, 2) := by decide +kernel
theorem dX12_number_106 : decode cX12_number 106 = .ok (.i2l, 1) := by decide +kernel
theorem dX12_number_107 : decode cX12_number 107 = .ok (.invokestatic 139, 3) := by decide +kernel
theorem dX12_number_110 : decode cX12_number 110 = .ok (.ifCond .ne 11, 3) := by decide +kernel
theorem dX12_number_113 : decode cX12_number 113 = .ok (.aload_n 0, 1) := by decide +kernel
theorem dX12_number_114 : decode cX12_number 114 = .ok (.iload 5, 2) := by decide +kernel
theorem dX12_number_116 : decode cX12_number 116 = .ok (.putfield 214, 3) := by decide +kernel
theorem dX12_number_119 : decode cX12_number 119 = .ok (.iconst (-1), 1) := by decide +kernel
theorem dX12_number_120 : decode cX12_number 120 = .ok (.ireturn, 1) := by decide +kernel
theorem dX12_number_121 : decode cX12_number 121 = .ok (.iload 6, 2) := by decide +kernel
theorem dX12_number_123 : decode cX12_number 123 = .ok (.ireturn, 1) := by decide +kernel
theorem dX12_readsPart_0 : decode cX12_readsPart 0 = .ok (.aload_n 0, 1) := by decide +kernel
theorem dX12_readsPart_1 : decode cX12_readsPart 1 = .ok (.getfield 214, 3) := by decide +kernel
theorem dX12_readsPart_4 : decode cX12_readsPart 4 = .ok (.aload_n 0, 1) := by decide +kernel
theorem dX12_readsPart_5 : decode cX12_readsPart 5 = .ok (.getfield 211, 3) := by decide +kernel
theorem dX12_readsPart_8 : decode cX12_readsPart 8 = .ok (.if_icmp .ge 15, 3) := by decide +kernel
theorem dX12_readsPart_11 : decode cX12_readsPart 11 = .ok (.aload_n 0, 1) := by decide +kernel
theorem dX12_readsPart_12 : decode cX12_readsPart 12 = .ok (.getfield 58, 3) := by decide +kernel
theorem dX12_readsPart_15 : decode cX12_readsPart 15 = .ok (.aload_n 0, 1) := by decide +kernel
theorem dX12_readsPart_16 : decode cX12_readsPart 16 = .ok (.getfield 214, 3) := by decide +kernel
theorem dX12_readsPart_19 : decode cX12_readsPart 19 = .ok (.iaload, 1) := by decide +kernel
theorem dX12_readsPart_20 : decode cX12_readsPart 20 = .ok (.goto 4, 3) := by decide +kernel
theorem dX12_readsPart_23 : decode cX12_readsPart 23 = .ok (.iconst (-1), 1) := by decide +kernel
theorem dX12_readsPart_24 : decode cX12_readsPart 24 = .ok (.istore_n 1, 1) := by decide +kernel
theorem dX12_readsPart_25 : decode cX12_readsPart 25 = .ok (.iload_n 1, 1) := by decide +kernel
theorem dX12_readsPart_26 : decode cX12_readsPart 26 = .ok (.bipush 97, 2) := by decide +kernel
theorem dX12_readsPart_28 : decode cX12_readsPart 28 = .ok (.if_icmp .ne 7, 3) := by decide +kernel
theorem dX12_readsPart_31 : decode cX12_readsPart 31 = .ok (.iconst 0, 1) := by decide +kernel
theorem dX12_readsPart_32 : decode cX12_readsPart 32 = .ok (.goto 34, 3) := by decide +kernel
theorem dX12_readsPart_35 : decode cX12_readsPart 35 = .ok (.iload_n 1, 1) := by decide +kernel
theorem dX12_readsPart_36 : decode cX12_readsPart 36 = .ok (.bipush 98, 2) := by decide +kernel
theorem dX12_readsPart_38 : decode cX12_readsPart 38 = .ok (.if_icmp .ne 7, 3) := by decide +kernel
theorem dX12_readsPart_41 : decode cX12_readsPart 41 = .ok (.iconst 1, 1) := by decide +kernel
theorem dX12_readsPart_42 : decode cX12_readsPart 42 = .ok (.goto 24, 3) := by decide +kernel
theorem dX12_readsPart_45 : decode cX12_readsPart 45 = .ok (.iload_n 1, 1) := by decide +kernel
theorem dX12_readsPart_46 : decode cX12_readsPart 46 = .ok (.bipush 99, 2) := by decide +kernel
theorem dX12_readsPart_48 : decode cX12_readsPart 48 = .ok (.if_icmp .ne 7, 3) := by decide +kernel
theorem dX12_readsPart_51 : decode cX12_readsPart 51 = .ok (.iconst 2, 1) := by decide +kernel
theorem dX12_readsPart_52 : decode cX12_readsPart 52 = .ok (.goto 14, 3) := by decide +kernel
theorem dX12_readsPart_55 : decode cX12_readsPart 55 = .ok (.iload_n 1, 1) := by decide +kernel
theorem dX12_readsPart_56 : decode cX12_readsPart 56 = .ok (.bipush 107, 2) := by decide +kernel
theorem dX12_readsPart_58 : decode cX12_readsPart 58 = .ok (.if_icmp .ne 7, 3) := by decide +kernel
theorem dX12_readsPart_61 : decode cX12_readsPart 61 = .ok (.iconst 3, 1) := by decide +kernel
theorem dX12_readsPart_62 : decode cX12_readsPart 62 = .ok (.goto 4, 3) := by decide +kernel
theorem dX12_readsPart_65 : decode cX12_readsPart 65 = .ok (.iconst (-1), 1) := by decide +kernel
theorem dX12_readsPart_66 : decode cX12_readsPart 66 = .ok (.istore_n 2, 1) := by decide +kernel
theorem dX12_readsPart_67 : decode cX12_readsPart 67 = .ok (.iload_n 2, 1) := by decide +kernel
theorem dX12_readsPart_68 : decode cX12_readsPart 68 = .ok (.iconst (-1), 1) := by decide +kernel
theorem dX12_readsPart_69 : decode cX12_readsPart 69 = .ok (.if_icmp .ne 5, 3) := by decide +kernel
theorem dX12_readsPart_72 : decode cX12_readsPart 72 = .ok (.iconst 0, 1) := by decide +kernel
theorem dX12_readsPart_73 : decode cX12_readsPart 73 = .ok (.ireturn, 1) := by decide +kernel
theorem dX12_readsPart_74 : decode cX12_readsPart 74 = .ok (.aload_n 0, 1) := by decide +kernel
theorem dX12_readsPart_75 : decode cX12_readsPart 75 = .ok (.dup, 1) := by decide +kernel
theorem dX12_readsPart_76 : decode cX12_readsPart 76 = .ok (.getfield 214, 3) := by decide +kernel
theorem dX12_readsPart_79 : decode cX12_readsPart 79 = .ok (.iconst 1, 1) := by decide +kernel
theorem dX12_readsPart_80 : decode cX12_readsPart 80 = .ok (.iadd, 1) := by decide +kernel
theorem dX12_readsPart_81 : decode cX12_readsPart 81 = .ok (.putfield 214, 3) := by decide +kernel
theorem dX12_readsPart_84 : decode cX12_readsPart 84 = .ok (.aload_n 0, 1) := by decide +kernel
theorem dX12_readsPart_85 : decode cX12_readsPart 85 = .ok (.bipush 61, 2) := by decide +kernel
theorem dX12_readsPart_87 : decode cX12_readsPart 87 = .ok (.invokevirtual 221, 3) := by decide +kernel
theorem dX12_readsPart_90 : decode cX12_readsPart 90 = .ok (.ifCond .ne 5, 3) := by decide +kernel
theorem dX12_readsPart_93 : decode cX12_readsPart 93 = .ok (.iconst 0, 1) := by decide +kernel
theorem dX12_readsPart_94 : decode cX12_readsPart 94 = .ok (.ireturn, 1) := by decide +kernel
theorem dX12_readsPart_95 : decode cX12_readsPart 95 = .ok (.iload_n 2, 1) := by decide +kernel
theorem dX12_readsPart_96 : decode cX12_readsPart 96 = .ok (.iconst 3, 1) := by decide +kernel
theorem dX12_readsPart_97 : decode cX12_readsPart 97 = .ok (.if_icmp .ne 15, 3) := by decide +kernel
theorem dX12_readsPart_100 : decode cX12_readsPart 100 = .ok (.aload_n 0, 1) := by decide +kernel
theorem dX12_readsPart_101 : decode cX12_readsPart 101 = .ok (.iconst 1, 1) := by decide +kernel
theorem dX12_readsPart_102 : decode cX12_readsPart 102 = .ok (.iconst 1, 1) := by decide +kernel
theorem dX12_readsPart_103 : decode cX12_readsPart 103 = .ok (.iconst 0, 1) := by decide +kernel
theorem dX12_readsPart_104 : decode cX12_readsPart 104 = .ok (.bipush 9, 2) := by decide +kernel
theorem dX12_readsPart_106 : decode cX12_readsPart 106 = .ok (.invokevirtual 224, 3) := by decide +kernel
theorem dX12_readsPart_109 : decode cX12_readsPart 109 = .ok (.goto 15, 3) := by decide +kernel
theorem dX12_readsPart_112 : decode cX12_readsPart 112 = .ok (.aload_n 0, 1) := by decide +kernel
theorem dX12_readsPart_113 : decode cX12_readsPart 113 = .ok (.iconst 4, 1) := by decide +kernel
theorem dX12_readsPart_114 : decode cX12_readsPart 114 = .ok (.iconst 4, 1) := by decide +kernel
theorem dX12_readsPart_115 : decode cX12_readsPart 115 = .ok (.sipush 1000, 3) := by decide +kernel
theorem dX12_readsPart_118 : decode cX12_readsPart 118 = .ok (.sipush 1939, 3) := by decide +kernel
theorem dX12_readsPart_121 : decode cX12_readsPart 121 = .ok (.invokevirtual 224, 3) := by decide +kernel
theorem dX12_readsPart_124 : decode cX12_readsPart 124 = .ok (.istore_n 3, 1) := by decide +kernel
theorem dX12_readsPart_125 : decode cX12_readsPart 125 = .ok (.iload_n 3, 1) := by decide +kernel
theorem dX12_readsPart_126 : decode cX12_readsPart 126 = .ok (.ifCond .ge 5, 3) := by decide +kernel
theorem dX12_readsPart_129 : decode cX12_readsPart 129 = .ok (.iconst 0, 1) := by decide +kernel
theorem dX12_readsPart_130 : decode cX12_readsPart 130 = .ok (.ireturn, 1) := by decide +kernel
theorem dX12_readsPart_131 : decode cX12_readsPart 131 = .ok (.iconst 0, 1) := by decide +kernel
theorem dX12_readsPart_132 : decode cX12_readsPart 132 = .ok (.istore 4, 2) := by decide +kernel
theorem dX12_readsPart_134 : decode cX12_readsPart 134 = .ok (.iload_n 2, 1) := by decide +kernel
theorem dX12_readsPart_135 : decode cX12_readsPart 135 = .ok (.iconst 3, 1) := by decide +kernel
theorem dX12_readsPart_136 : decode cX12_readsPart 136 = .ok (.if_icmp .ge 33, 3) := by decide +kernel
theorem dX12_readsPart_139 : decode cX12_readsPart 139 = .ok (.aload_n 0, 1) := by decide +kernel
theorem dX12_readsPart_140 : decode cX12_readsPart 140 = .ok (.bipush 44, 2) := by decide +kernel
theorem dX12_readsPart_142 : decode cX12_readsPart 142 = .ok (.invokevirtual 221, 3) := by decide +kernel
theorem dX12_readsPart_145 : decode cX12_readsPart 145 = .ok (.ifCond .ne 5, 3) := by decide +kernel
theorem dX12_readsPart_148 : decode cX12_readsPart 148 = .ok (.iconst 0, 1) := by decide +kernel
theorem dX12_readsPart_149 : decode cX12_readsPart 149 = .ok (.ireturn, 1) := by decide +kernel
theorem dX12_readsPart_150 : decode cX12_readsPart 150 = .ok (.aload_n 0, 1) := by decide +kernel
theorem dX12_readsPart_151 : decode cX12_readsPart 151 = .ok (.iconst 1, 1) := by decide +kernel
theorem dX12_readsPart_152 : decode cX12_readsPart 152 = .ok (.iconst 4, 1) := by decide +kernel
theorem dX12_readsPart_153 : decode cX12_readsPart 153 = .ok (.iconst 1, 1) := by decide +kernel
theorem dX12_readsPart_154 : decode cX12_readsPart 154 = .ok (.sipush 9999, 3) := by decide +kernel
theorem dX12_readsPart_157 : decode cX12_readsPart 157 = .ok (.invokevirtual 224, 3) := by decide +kernel
theorem dX12_readsPart_160 : decode cX12_readsPart 160 = .ok (.istore 4, 2) := by decide +kernel
theorem dX12_readsPart_162 : decode cX12_readsPart 162 = .ok (.iload 4, 2) := by decide +kernel
theorem dX12_readsPart_164 : decode cX12_readsPart 164 = .ok (.ifCond .ge 5, 3) := by decide +kernel
theorem dX12_readsPart_167 : decode cX12_readsPart 167 = .ok (.iconst 0, 1) := by decide +kernel
theorem dX12_readsPart_168 : decode cX12_readsPart 168 = .ok (.ireturn, 1) := by decide +kernel
theorem dX12_readsPart_169 : decode cX12_readsPart 169 = .ok (.iconst 0, 1) := by decide +kernel
theorem dX12_readsPart_170 : decode cX12_readsPart 170 = .ok (.istore 5, 2) := by decide +kernel
theorem dX12_readsPart_172 : decode cX12_readsPart 172 = .ok (.aload_n 0, 1) := by decide +kernel
theorem dX12_readsPart_173 : decode cX12_readsPart 173 = .ok (.bipush 64, 2) := by decide +kernel
theorem dX12_readsPart_175 : decode cX12_readsPart 175 = .ok (.invokevirtual 221, 3) := by decide +kernel
theorem dX12_readsPart_178 : decode cX12_readsPart 178 = .ok (.ifCond .eq 22, 3) := by decide +kernel
theorem dX12_readsPart_181 : decode cX12_readsPart 181 = .ok (.aload_n 0, 1) := by decide +kernel
theorem dX12_readsPart_182 : decode cX12_readsPart 182 = .ok (.iconst 1, 1) := by decide +kernel
theorem dX12_readsPart_183 : decode cX12_readsPart 183 = .ok (.iconst 3, 1) := by decide +kernel
theorem dX12_readsPart_184 : decode cX12_readsPart 184 = .ok (.iconst 0, 1) := by decide +kernel
theorem dX12_readsPart_185 : decode cX12_readsPart 185 = .ok (.sipush 199, 3) := by decide +kernel
theorem dX12_readsPart_188 : decode cX12_readsPart 188 = .ok (.invokevirtual 224, 3) := by decide +kernel
theorem dX12_readsPart_191 : decode cX12_readsPart 191 = .ok (.istore 5, 2) := by decide +kernel
theorem dX12_readsPart_193 : decode cX12_readsPart 193 = .ok (.iload 5, 2) := by decide +kernel
theorem dX12_readsPart_195 : decode cX12_readsPart 195 = .ok (.ifCond .ge 5, 3) := by decide +kernel
theorem dX12_readsPart_198 : decode cX12_readsPart 198 = .ok (.iconst 0, 1) := by decide +kernel
theorem dX12_readsPart_199 : decode cX12_readsPart 199 = .ok (.ireturn, 1) := by decide +kernel
theorem dX12_readsPart_200 : decode cX12_readsPart 200 = .ok (.aload_n 0, 1) := by decide +kernel
theorem dX12_readsPart_201 : decode cX12_readsPart 201 = .ok (.getfield 61, 3) := by decide +kernel
theorem dX12_readsPart_204 : decode cX12_readsPart 204 = .ok (.aload_n 0, 1) := by decide +kernel
theorem dX12_readsPart_205 : decode cX12_readsPart 205 = .ok (.getfield 227, 3) := by decide +kernel
theorem dX12_readsPart_208 : decode cX12_readsPart 208 = .ok (.iload_n 2, 1) := by decide +kernel
theorem dX12_readsPart_209 : decode cX12_readsPart 209 = .ok (.iastore, 1) := by decide +kernel
theorem dX12_readsPart_210 : decode cX12_readsPart 210 = .ok (.aload_n 0, 1) := by decide +kernel
theorem dX12_readsPart_211 : decode cX12_readsPart 211 = .ok (.getfield 64, 3) := by decide +kernel
theorem dX12_readsPart_214 : decode cX12_readsPart 214 = .ok (.aload_n 0, 1) := by decide +kernel
theorem dX12_readsPart_215 : decode cX12_readsPart 215 = .ok (.getfield 227, 3) := by decide +kernel
theorem dX12_readsPart_218 : decode cX12_readsPart 218 = .ok (.iload_n 3, 1) := by decide +kernel
theorem dX12_readsPart_219 : decode cX12_readsPart 219 = .ok (.iastore, 1) := by decide +kernel
theorem dX12_readsPart_220 : decode cX12_readsPart 220 = .ok (.aload_n 0, 1) := by decide +kernel
theorem dX12_readsPart_221 : decode cX12_readsPart 221 = .ok (.getfield 67, 3) := by decide +kernel
theorem dX12_readsPart_224 : decode cX12_readsPart 224 = .ok (.aload_n 0, 1) := by decide +kernel
theorem dX12_readsPart_225 : decode cX12_readsPart 225 = .ok (.getfield 227, 3) := by decide +kernel
theorem dX12_readsPart_228 : decode cX12_readsPart 228 = .ok (.iload 4, 2) := by decide +kernel
theorem dX12_readsPart_230 : decode cX12_readsPart 230 = .ok (.iastore, 1) := by decide +kernel
theorem dX12_readsPart_231 : decode cX12_readsPart 231 = .ok (.aload_n 0, 1) := by decide +kernel
theorem dX12_readsPart_232 : decode cX12_readsPart 232 = .ok (.getfield 70, 3) := by decide +kernel
theorem dX12_readsPart_235 : decode cX12_readsPart 235 = .ok (.aload_n 0, 1) := by decide +kernel
theorem dX12_readsPart_236 : decode cX12_readsPart 236 = .ok (.getfield 227, 3) := by decide +kernel
theorem dX12_readsPart_239 : decode cX12_readsPart 239 = .ok (.iload 5, 2) := by decide +kernel
theorem dX12_readsPart_241 : decode cX12_readsPart 241 = .ok (.iastore, 1) := by decide +kernel
theorem dX12_readsPart_242 : decode cX12_readsPart 242 = .ok (.aload_n 0, 1) := by decide +kernel
theorem dX12_readsPart_243 : decode cX12_readsPart 243 = .ok (.dup, 1) := by decide +kernel
theorem dX12_readsPart_244 : decode cX12_readsPart 244 = .ok (.getfield 227, 3) := by decide +kernel
theorem dX12_readsPart_247 : decode cX12_readsPart 247 = .ok (.iconst 1, 1) := by decide +kernel
theorem dX12_readsPart_248 : decode cX12_readsPart 248 = .ok (.iadd, 1) := by decide +kernel
theorem dX12_readsPart_249 : decode cX12_readsPart 249 = .ok (.putfield 227, 3) := by decide +kernel
theorem dX12_readsPart_252 : decode cX12_readsPart 252 = .ok (.iconst 1, 1) := by decide +kernel
theorem dX12_readsPart_253 : decode cX12_readsPart 253 = .ok (.ireturn, 1) := by decide +kernel
theorem dX12_reads_0 : decode cX12_reads 0 = .ok (.aload_n 0, 1) := by decide +kernel
theorem dX12_reads_1 : decode cX12_reads 1 = .ok (.iconst 0, 1) := by decide +kernel
theorem dX12_reads_2 : decode cX12_reads 2 = .ok (.putfield 214, 3) := by decide +kernel
theorem dX12_reads_5 : decode cX12_reads 5 = .ok (.aload_n 0, 1) := by decide +kernel
theorem dX12_reads_6 : decode cX12_reads 6 = .ok (.iconst 0, 1) := by decide +kernel
theorem dX12_reads_7 : decode cX12_reads 7 = .ok (.putfield 227, 3) := by decide +kernel
theorem dX12_reads_10 : decode cX12_reads 10 = .ok (.aload_n 0, 1) := by decide +kernel
theorem dX12_reads_11 : decode cX12_reads 11 = .ok (.getfield 211, 3) := by decide +kernel
theorem dX12_reads_14 : decode cX12_reads 14 = .ok (.ifCond .le 7, 3) := by decide +kernel
theorem dX12_reads_17 : decode cX12_reads 17 = .ok (.iconst 1, 1) := by decide +kernel
theorem dX12_reads_18 : decode cX12_reads 18 = .ok (.goto 4, 3) := by decide +kernel
theorem dX12_reads_21 : decode cX12_reads 21 = .ok (.iconst 0, 1) := by decide +kernel
theorem dX12_reads_22 : decode cX12_reads 22 = .ok (.istore_n 1, 1) := by decide +kernel
theorem dX12_reads_23 : decode cX12_reads 23 = .ok (.iload_n 1, 1) := by decide +kernel
theorem dX12_reads_24 : decode cX12_reads 24 = .ok (.ifCond .eq 60, 3) := by decide +kernel
theorem dX12_reads_27 : decode cX12_reads 27 = .ok (.aload_n 0, 1) := by decide +kernel
theorem dX12_reads_28 : decode cX12_reads 28 = .ok (.invokevirtual 230, 3) := by decide +kernel
theorem dX12_reads_31 : decode cX12_reads 31 = .ok (.ifCond .ne 13, 3) := by decide +kernel
theorem dX12_reads_34 : decode cX12_reads 34 = .ok (.aload_n 0, 1) := by decide +kernel
theorem dX12_reads_35 : decode cX12_reads 35 = .ok (.iconst 0, 1) := by decide +kernel
theorem dX12_reads_36 : decode cX12_reads 36 = .ok (.putfield 227, 3) := by decide +kernel
theorem dX12_reads_39 : decode cX12_reads 39 = .ok (.aload_n 0, 1) := by decide +kernel
theorem dX12_reads_40 : decode cX12_reads 40 = .ok (.getfield 214, 3) := by decide +kernel
theorem dX12_reads_43 : decode cX12_reads 43 = .ok (.ireturn, 1) := by decide +kernel
theorem dX12_reads_44 : decode cX12_reads 44 = .ok (.aload_n 0, 1) := by decide +kernel
theorem dX12_reads_45 : decode cX12_reads 45 = .ok (.getfield 214, 3) := by decide +kernel
theorem dX12_reads_48 : decode cX12_reads 48 = .ok (.aload_n 0, 1) := by decide +kernel
theorem dX12_reads_49 : decode cX12_reads 49 = .ok (.getfield 211, 3) := by decide +kernel
theorem dX12_reads_52 : decode cX12_reads 52 = .ok (.if_icmp .ge 7, 3) := by decide +kernel
theorem dX12_reads_55 : decode cX12_reads 55 = .ok (.iconst 1, 1) := by decide +kernel
theorem dX12_reads_56 : decode cX12_reads 56 = .ok (.goto 4, 3) := by decide +kernel
theorem dX12_reads_59 : decode cX12_reads 59 = .ok (.iconst 0, 1) := by decide +kernel
theorem dX12_reads_60 : decode cX12_reads 60 = .ok (.istore_n 1, 1) := by decide +kernel
theorem dX12_reads_61 : decode cX12_reads 61 = .ok (.iload_n 1, 1) := by decide +kernel
theorem dX12_reads_62 : decode cX12_reads 62 = .ok (.ifCond .eq (-39), 3) := by decide +kernel
theorem dX12_reads_65 : decode cX12_reads 65 = .ok (.aload_n 0, 1) := by decide +kernel
theorem dX12_reads_66 : decode cX12_reads 66 = .ok (.bipush 59, 2) := by decide +kernel
theorem dX12_reads_68 : decode cX12_reads 68 = .ok (.invokevirtual 221, 3) := by decide +kernel
theorem dX12_reads_71 : decode cX12_reads 71 = .ok (.ifCond .ne (-48), 3) := by decide +kernel
theorem dX12_reads_74 : decode cX12_reads 74 = .ok (.aload_n 0, 1) := by decide +kernel
theorem dX12_reads_75 : decode cX12_reads 75 = .ok (.iconst 0, 1) := by decide +kernel
theorem dX12_reads_76 : decode cX12_reads 76 = .ok (.putfield 227, 3) := by decide +kernel
theorem dX12_reads_79 : decode cX12_reads 79 = .ok (.aload_n 0, 1) := by decide +kernel
theorem dX12_reads_80 : decode cX12_reads 80 = .ok (.getfield 214, 3) := by decide +kernel
theorem dX12_reads_83 : decode cX12_reads 83 = .ok (.ireturn, 1) := by decide +kernel
theorem dX12_reads_84 : decode cX12_reads 84 = .ok (.iconst (-1), 1) := by decide +kernel
theorem dX12_reads_85 : decode cX12_reads 85 = .ok (.ireturn, 1) := by decide +kernel
theorem dX12_fault_0 : decode cX12_fault 0 = .ok (.aload_n 0, 1) := by decide +kernel
theorem dX12_fault_1 : decode cX12_fault 1 = .ok (.invokevirtual 234, 3) := by decide +kernel
theorem dX12_fault_4 : decode cX12_fault 4 = .ok (.ireturn, 1) := by decide +kernel
theorem dX12_partIn_0 : decode cX12_partIn 0 = .ok (.iconst (-1), 1) := by decide +kernel
theorem dX12_partIn_1 : decode cX12_partIn 1 = .ok (.istore_n 3, 1) := by decide +kernel
theorem dX12_partIn_2 : decode cX12_partIn 2 = .ok (.iconst 0, 1) := by decide +kernel
theorem dX12_partIn_3 : decode cX12_partIn 3 = .ok (.istore 4, 2) := by decide +kernel
theorem dX12_partIn_5 : decode cX12_partIn 5 = .ok (.iload 4, 2) := by decide +kernel
theorem dX12_partIn_7 : decode cX12_partIn 7 = .ok (.aload_n 0, 1) := by decide +kernel
theorem dX12_partIn_8 : decode cX12_partIn 8 = .ok (.getfield 227, 3) := by decide +kernel
theorem dX12_partIn_11 : decode cX12_partIn 11 = .ok (.if_icmp .ge 38, 3) := by decide +kernel
theorem dX12_partIn_14 : decode cX12_partIn 14 = .ok (.aload_n 0, 1) := by decide +kernel
theorem dX12_partIn_15 : decode cX12_partIn 15 = .ok (.getfield 61, 3) := by decide +kernel
theorem dX12_partIn_18 : decode cX12_partIn 18 = .ok (.iload 4, 2) := by decide +kernel
theorem dX12_partIn_20 : decode cX12_partIn 20 = .ok (.iaload, 1) := by decide +kernel
theorem dX12_partIn_21 : decode cX12_partIn 21 = .ok (.iload_n 1, 1) := by decide +kernel
theorem dX12_partIn_22 : decode cX12_partIn 22 = .ok (.if_icmp .ne 19, 3) := by decide +kernel
theorem dX12_partIn_25 : decode cX12_partIn 25 = .ok (.aload_n 0, 1) := by decide +kernel
theorem dX12_partIn_26 : decode cX12_partIn 26 = .ok (.getfield 70, 3) := by decide +kernel
theorem dX12_partIn_29 : decode cX12_partIn 29 = .ok (.iload 4, 2) := by decide +kernel
theorem dX12_partIn_31 : decode cX12_partIn 31 = .ok (.iaload, 1) := by decide +kernel
theorem dX12_partIn_32 : decode cX12_partIn 32 = .ok (.iload_n 2, 1) := by decide +kernel
theorem dX12_partIn_33 : decode cX12_partIn 33 = .ok (.if_icmp .gt 8, 3) := by decide +kernel
theorem dX12_partIn_36 : decode cX12_partIn 36 = .ok (.iload 4, 2) := by decide +kernel
theorem dX12_partIn_38 : decode cX12_partIn 38 = .ok (.goto 4, 3) := by decide +kernel
theorem dX12_partIn_41 : decode cX12_partIn 41 = .ok (.iload_n 3, 1) := by decide +kernel
theorem dX12_partIn_42 : decode cX12_partIn 42 = .ok (.istore_n 3, 1) := by decide +kernel
theorem dX12_partIn_43 : decode cX12_partIn 43 = .ok (.iinc 4 1, 3) := by decide +kernel
theorem dX12_partIn_46 : decode cX12_partIn 46 = .ok (.goto (-41), 3) := by decide +kernel
theorem dX12_partIn_49 : decode cX12_partIn 49 = .ok (.iload_n 3, 1) := by decide +kernel
theorem dX12_partIn_50 : decode cX12_partIn 50 = .ok (.ireturn, 1) := by decide +kernel
theorem dX12_whyOf_0 : decode cX12_whyOf 0 = .ok (.iconst 0, 1) := by decide +kernel
theorem dX12_whyOf_1 : decode cX12_whyOf 1 = .ok (.istore_n 3, 1) := by decide +kernel
theorem dX12_whyOf_2 : decode cX12_whyOf 2 = .ok (.iload_n 3, 1) := by decide +kernel
theorem dX12_whyOf_3 : decode cX12_whyOf 3 = .ok (.iconst 3, 1) := by decide +kernel
theorem dX12_whyOf_4 : decode cX12_whyOf 4 = .ok (.if_icmp .ge 58, 3) := by decide +kernel
theorem dX12_whyOf_7 : decode cX12_whyOf 7 = .ok (.aload_n 0, 1) := by decide +kernel
theorem dX12_whyOf_8 : decode cX12_whyOf 8 = .ok (.iload_n 3, 1) := by decide +kernel
theorem dX12_whyOf_9 : decode cX12_whyOf 9 = .ok (.iload_n 2, 1) := by decide +kernel
theorem dX12_whyOf_10 : decode cX12_whyOf 10 = .ok (.invokevirtual 238, 3) := by decide +kernel
theorem dX12_whyOf_13 : decode cX12_whyOf 13 = .ok (.istore 4, 2) := by decide +kernel
theorem dX12_whyOf_15 : decode cX12_whyOf 15 = .ok (.iload 4, 2) := by decide +kernel
theorem dX12_whyOf_17 : decode cX12_whyOf 17 = .ok (.iconst (-1), 1) := by decide +kernel
theorem dX12_whyOf_18 : decode cX12_whyOf 18 = .ok (.if_icmp .eq 38, 3) := by decide +kernel
theorem dX12_whyOf_21 : decode cX12_whyOf 21 = .ok (.aload_n 0, 1) := by decide +kernel
theorem dX12_whyOf_22 : decode cX12_whyOf 22 = .ok (.getfield 31, 3) := by decide +kernel
theorem dX12_whyOf_25 : decode cX12_whyOf 25 = .ok (.iload_n 1, 1) := by decide +kernel
theorem dX12_whyOf_26 : decode cX12_whyOf 26 = .ok (.iaload, 1) := by decide +kernel
theorem dX12_whyOf_27 : decode cX12_whyOf 27 = .ok (.aload_n 0, 1) := by decide +kernel
theorem dX12_whyOf_28 : decode cX12_whyOf 28 = .ok (.getfield 64, 3) := by decide +kernel
theorem dX12_whyOf_31 : decode cX12_whyOf 31 = .ok (.iload 4, 2) := by decide +kernel
theorem dX12_whyOf_33 : decode cX12_whyOf 33 = .ok (.iaload, 1) := by decide +kernel
theorem dX12_whyOf_34 : decode cX12_whyOf 34 = .ok (.if_icmp .lt 22, 3) := by decide +kernel
theorem dX12_whyOf_37 : decode cX12_whyOf 37 = .ok (.aload_n 0, 1) := by decide +kernel
theorem dX12_whyOf_38 : decode cX12_whyOf 38 = .ok (.getfield 28, 3) := by decide +kernel
theorem dX12_whyOf_41 : decode cX12_whyOf 41 = .ok (.iload_n 1, 1) := by decide +kernel
theorem dX12_whyOf_42 : decode cX12_whyOf 42 = .ok (.iaload, 1) := by decide +kernel
theorem dX12_whyOf_43 : decode cX12_whyOf 43 = .ok (.aload_n 0, 1) := by decide +kernel
theorem dX12_whyOf_44 : decode cX12_whyOf 44 = .ok (.getfield 67, 3) := by decide +kernel
theorem dX12_whyOf_47 : decode cX12_whyOf 47 = .ok (.iload 4, 2) := by decide +kernel
theorem dX12_whyOf_49 : decode cX12_whyOf 49 = .ok (.iaload, 1) := by decide +kernel
theorem dX12_whyOf_50 : decode cX12_whyOf 50 = .ok (.if_icmp .lt 6, 3) := by decide +kernel
theorem dX12_whyOf_53 : decode cX12_whyOf 53 = .ok (.iload 4, 2) := by decide +kernel
theorem dX12_whyOf_55 : decode cX12_whyOf 55 = .ok (.ireturn, 1) := by decide +kernel
theorem dX12_whyOf_56 : decode cX12_whyOf 56 = .ok (.iinc 3 1, 3) := by decide +kernel
theorem dX12_whyOf_59 : decode cX12_whyOf 59 = .ok (.goto (-57), 3) := by decide +kernel
theorem dX12_whyOf_62 : decode cX12_whyOf 62 = .ok (.iconst (-1), 1) := by decide +kernel
theorem dX12_whyOf_63 : decode cX12_whyOf 63 = .ok (.ireturn, 1) := by decide +kernel
theorem dX12_letterOf_0 : decode cX12_letterOf 0 = .ok (.aload_n 0, 1) := by decide +kernel
theorem dX12_letterOf_1 : decode cX12_letterOf 1 = .ok (.iload_n 1, 1) := by decide +kernel
theorem dX12_letterOf_2 : decode cX12_letterOf 2 = .ok (.iload_n 2, 1) := by decide +kernel
theorem dX12_letterOf_3 : decode cX12_letterOf 3 = .ok (.invokevirtual 241, 3) := by decide +kernel
theorem dX12_letterOf_6 : decode cX12_letterOf 6 = .ok (.istore_n 3, 1) := by decide +kernel
theorem dX12_letterOf_7 : decode cX12_letterOf 7 = .ok (.iload_n 3, 1) := by decide +kernel
theorem dX12_letterOf_8 : decode cX12_letterOf 8 = .ok (.iconst (-1), 1) := by decide +kernel
theorem dX12_letterOf_9 : decode cX12_letterOf 9 = .ok (.if_icmp .ne 7, 3) := by decide +kernel
theorem dX12_letterOf_12 : decode cX12_letterOf 12 = .ok (.iconst 3, 1) := by decide +kernel
theorem dX12_letterOf_13 : decode cX12_letterOf 13 = .ok (.goto 9, 3) := by decide +kernel
theorem dX12_letterOf_16 : decode cX12_letterOf 16 = .ok (.aload_n 0, 1) := by decide +kernel
theorem dX12_letterOf_17 : decode cX12_letterOf 17 = .ok (.getfield 61, 3) := by decide +kernel
theorem dX12_letterOf_20 : decode cX12_letterOf 20 = .ok (.iload_n 3, 1) := by decide +kernel
theorem dX12_letterOf_21 : decode cX12_letterOf 21 = .ok (.iaload, 1) := by decide +kernel
theorem dX12_letterOf_22 : decode cX12_letterOf 22 = .ok (.ireturn, 1) := by decide +kernel
theorem dX12_letter_0 : decode cX12_letter 0 = .ok (.aload_n 0, 1) := by decide +kernel
theorem dX12_letter_1 : decode cX12_letter 1 = .ok (.iload_n 1, 1) := by decide +kernel
theorem dX12_letter_2 : decode cX12_letter 2 = .ok (.invokevirtual 190, 3) := by decide +kernel
theorem dX12_letter_5 : decode cX12_letter 5 = .ok (.ifCond .eq 10, 3) := by decide +kernel
theorem dX12_letter_8 : decode cX12_letter 8 = .ok (.iload_n 2, 1) := by decide +kernel
theorem dX12_letter_9 : decode cX12_letter 9 = .ok (.invokestatic 244, 3) := by decide +kernel
theorem dX12_letter_12 : decode cX12_letter 12 = .ok (.ifCond .ne 6, 3) := by decide +kernel
theorem dX12_letter_15 : decode cX12_letter 15 = .ok (.bipush (-2), 2) := by decide +kernel
theorem dX12_letter_17 : decode cX12_letter 17 = .ok (.ireturn, 1) := by decide +kernel
theorem dX12_letter_18 : decode cX12_letter 18 = .ok (.aload_n 0, 1) := by decide +kernel
theorem dX12_letter_19 : decode cX12_letter 19 = .ok (.invokevirtual 234, 3) := by decide +kernel
theorem dX12_letter_22 : decode cX12_letter 22 = .ok (.pop, 1) := by decide +kernel
theorem dX12_letter_23 : decode cX12_letter 23 = .ok (.aload_n 0, 1) := by decide +kernel
theorem dX12_letter_24 : decode cX12_letter 24 = .ok (.iload_n 1, 1) := by decide +kernel
theorem dX12_letter_25 : decode cX12_letter 25 = .ok (.iload_n 2, 1) := by decide +kernel
theorem dX12_letter_26 : decode cX12_letter 26 = .ok (.invokevirtual 247, 3) := by decide +kernel
theorem dX12_letter_29 : decode cX12_letter 29 = .ok (.ireturn, 1) := by decide +kernel
theorem dX12_why_0 : decode cX12_why 0 = .ok (.aload_n 0, 1) := by decide +kernel
theorem dX12_why_1 : decode cX12_why 1 = .ok (.iload_n 1, 1) := by decide +kernel
theorem dX12_why_2 : decode cX12_why 2 = .ok (.invokevirtual 190, 3) := by decide +kernel
theorem dX12_why_5 : decode cX12_why 5 = .ok (.ifCond .eq 10, 3) := by decide +kernel
theorem dX12_why_8 : decode cX12_why 8 = .ok (.iload_n 2, 1) := by decide +kernel
theorem dX12_why_9 : decode cX12_why 9 = .ok (.invokestatic 244, 3) := by decide +kernel
theorem dX12_why_12 : decode cX12_why 12 = .ok (.ifCond .ne 6, 3) := by decide +kernel
theorem dX12_why_15 : decode cX12_why 15 = .ok (.bipush (-2), 2) := by decide +kernel
theorem dX12_why_17 : decode cX12_why 17 = .ok (.ireturn, 1) := by decide +kernel
theorem dX12_why_18 : decode cX12_why 18 = .ok (.aload_n 0, 1) := by decide +kernel
theorem dX12_why_19 : decode cX12_why 19 = .ok (.invokevirtual 234, 3) := by decide +kernel
theorem dX12_why_22 : decode cX12_why 22 = .ok (.pop, 1) := by decide +kernel
theorem dX12_why_23 : decode cX12_why 23 = .ok (.aload_n 0, 1) := by decide +kernel
theorem dX12_why_24 : decode cX12_why 24 = .ok (.iload_n 1, 1) := by decide +kernel
theorem dX12_why_25 : decode cX12_why 25 = .ok (.iload_n 2, 1) := by decide +kernel
theorem dX12_why_26 : decode cX12_why 26 = .ok (.invokevirtual 241, 3) := by decide +kernel
theorem dX12_why_29 : decode cX12_why 29 = .ok (.ireturn, 1) := by decide +kernel
theorem dX12_keptOf_0 : decode cX12_keptOf 0 = .ok (.aload_n 0, 1) := by decide +kernel
theorem dX12_keptOf_1 : decode cX12_keptOf 1 = .ok (.iconst 3, 1) := by decide +kernel
theorem dX12_keptOf_2 : decode cX12_keptOf 2 = .ok (.iload_n 2, 1) := by decide +kernel
theorem dX12_keptOf_3 : decode cX12_keptOf 3 = .ok (.invokevirtual 238, 3) := by decide +kernel
theorem dX12_keptOf_6 : decode cX12_keptOf 6 = .ok (.istore_n 3, 1) := by decide +kernel
theorem dX12_keptOf_7 : decode cX12_keptOf 7 = .ok (.iload_n 3, 1) := by decide +kernel
theorem dX12_keptOf_8 : decode cX12_keptOf 8 = .ok (.iconst (-1), 1) := by decide +kernel
theorem dX12_keptOf_9 : decode cX12_keptOf 9 = .ok (.if_icmp .ne 7, 3) := by decide +kernel
theorem dX12_keptOf_12 : decode cX12_keptOf 12 = .ok (.iconst 1, 1) := by decide +kernel
theorem dX12_keptOf_13 : decode cX12_keptOf 13 = .ok (.goto 9, 3) := by decide +kernel
theorem dX12_keptOf_16 : decode cX12_keptOf 16 = .ok (.aload_n 0, 1) := by decide +kernel
theorem dX12_keptOf_17 : decode cX12_keptOf 17 = .ok (.getfield 64, 3) := by decide +kernel
theorem dX12_keptOf_20 : decode cX12_keptOf 20 = .ok (.iload_n 3, 1) := by decide +kernel
theorem dX12_keptOf_21 : decode cX12_keptOf 21 = .ok (.iaload, 1) := by decide +kernel
theorem dX12_keptOf_22 : decode cX12_keptOf 22 = .ok (.istore 4, 2) := by decide +kernel
theorem dX12_keptOf_24 : decode cX12_keptOf 24 = .ok (.iconst 0, 1) := by decide +kernel
theorem dX12_keptOf_25 : decode cX12_keptOf 25 = .ok (.istore 5, 2) := by decide +kernel
theorem dX12_keptOf_27 : decode cX12_keptOf 27 = .ok (.iconst 0, 1) := by decide +kernel
theorem dX12_keptOf_28 : decode cX12_keptOf 28 = .ok (.istore 6, 2) := by decide +kernel
theorem dX12_keptOf_30 : decode cX12_keptOf 30 = .ok (.iload 6, 2) := by decide +kernel
theorem dX12_keptOf_32 : decode cX12_keptOf 32 = .ok (.iload 4, 2) := by decide +kernel
theorem dX12_keptOf_34 : decode cX12_keptOf 34 = .ok (.if_icmp .ge 125, 3) := by decide +kernel
theorem dX12_keptOf_37 : decode cX12_keptOf 37 = .ok (.iconst (-1), 1) := by decide +kernel
theorem dX12_keptOf_38 : decode cX12_keptOf 38 = .ok (.istore 7, 2) := by decide +kernel
theorem dX12_keptOf_40 : decode cX12_keptOf 40 = .ok (.iconst 0, 1) := by decide +kernel
theorem dX12_keptOf_41 : decode cX12_keptOf 41 = .ok (.istore 8, 2) := by decide +kernel
theorem dX12_keptOf_43 : decode cX12_keptOf 43 = .ok (.iload 8, 2) := by decide +kernel
theorem dX12_keptOf_45 : decode cX12_keptOf 45 = .ok (.aload_n 0, 1) := by decide +kernel
theorem dX12_keptOf_46 : decode cX12_keptOf 46 = .ok (.getfield 167, 3) := by decide +kernel
theorem dX12_keptOf_49 : decode cX12_keptOf 49 = .ok (.if_icmp .ge 85, 3) := by decide +kernel
theorem dX12_keptOf_52 : decode cX12_keptOf 52 = .ok (.aload_n 0, 1) := by decide +kernel
theorem dX12_keptOf_53 : decode cX12_keptOf 53 = .ok (.getfield 25, 3) := by decide +kernel
theorem dX12_keptOf_56 : decode cX12_keptOf 56 = .ok (.iload 8, 2) := by decide +kernel
theorem dX12_keptOf_58 : decode cX12_keptOf 58 = .ok (.iaload, 1) := by decide +kernel
theorem dX12_keptOf_59 : decode cX12_keptOf 59 = .ok (.iload_n 1, 1) := by decide +kernel
theorem dX12_keptOf_60 : decode cX12_keptOf 60 = .ok (.if_icmp .ne 28, 3) := by decide +kernel
theorem dX12_keptOf_63 : decode cX12_keptOf 63 = .ok (.iload 5, 2) := by decide +kernel
theorem dX12_keptOf_65 : decode cX12_keptOf 65 = .ok (.iload 8, 2) := by decide +kernel
theorem dX12_keptOf_67 : decode cX12_keptOf 67 = .ok (.ishr, 1) := by decide +kernel
theorem dX12_keptOf_68 : decode cX12_keptOf 68 = .ok (.iconst 1, 1) := by decide +kernel
theorem dX12_keptOf_69 : decode cX12_keptOf 69 = .ok (.iand, 1) := by decide +kernel
theorem dX12_keptOf_70 : decode cX12_keptOf 70 = .ok (.ifCond .ne 18, 3) := by decide +kernel
theorem dX12_keptOf_73 : decode cX12_keptOf 73 = .ok (.aload_n 0, 1) := by decide +kernel
theorem dX12_keptOf_74 : decode cX12_keptOf 74 = .ok (.iload 8, 2) := by decide +kernel
theorem dX12_keptOf_76 : decode cX12_keptOf 76 = .ok (.iload_n 2, 1) := by decide +kernel
theorem dX12_keptOf_77 : decode cX12_keptOf 77 = .ok (.invokevirtual 197, 3) := by decide +kernel
theorem dX12_keptOf_80 : decode cX12_keptOf 80 = .ok (.iconst 4, 1) := by decide +kernel
theorem dX12_keptOf_81 : decode cX12_keptOf 81 = .ok (.if_icmp .eq 7, 3) := by decide +kernel
theorem dX12_keptOf_84 : decode cX12_keptOf 84 = .ok (.iconst 1, 1) := by decide +kernel
theorem dX12_keptOf_85 : decode cX12_keptOf 85 = .ok (.goto 4, 3) := by decide +kernel
theorem dX12_keptOf_88 : decode cX12_keptOf 88 = .ok (.iconst 0, 1) := by decide +kernel
theorem dX12_keptOf_89 : decode cX12_keptOf 89 = .ok (.istore 9, 2) := by decide +kernel
theorem dX12_keptOf_91 : decode cX12_keptOf 91 = .ok (.iload 9, 2) := by decide +kernel
theorem dX12_keptOf_93 : decode cX12_keptOf 93 = .ok (.ifCond .eq 31, 3) := by decide +kernel
theorem dX12_keptOf_96 : decode cX12_keptOf 96 = .ok (.iload 7, 2) := by decide +kernel
theorem dX12_keptOf_98 : decode cX12_keptOf 98 = .ok (.iconst (-1), 1) := by decide +kernel
theorem dX12_keptOf_99 : decode cX12_keptOf 99 = .ok (.if_icmp .eq 20, 3) := by decide +kernel
theorem dX12_keptOf_102 : decode cX12_keptOf 102 = .ok (.aload_n 0, 1) := by decide +kernel
theorem dX12_keptOf_103 : decode cX12_keptOf 103 = .ok (.getfield 28, 3) := by decide +kernel
theorem dX12_keptOf_106 : decode cX12_keptOf 106 = .ok (.iload 8, 2) := by decide +kernel
theorem dX12_keptOf_108 : decode cX12_keptOf 108 = .ok (.iaload, 1) := by decide +kernel
theorem dX12_keptOf_109 : decode cX12_keptOf 109 = .ok (.aload_n 0, 1) := by decide +kernel
theorem dX12_keptOf_110 : decode cX12_keptOf 110 = .ok (.getfield 28, 3) := by decide +kernel
theorem dX12_keptOf_113 : decode cX12_keptOf 113 = .ok (.iload 7, 2) := by decide +kernel
theorem dX12_keptOf_115 : decode cX12_keptOf 115 = .ok (.iaload, 1) := by decide +kernel
theorem dX12_keptOf_116 : decode cX12_keptOf 116 = .ok (.if_icmp .ge 8, 3) := by decide +kernel
theorem dX12_keptOf_119 : decode cX12_keptOf 119 = .ok (.iload 8, 2) := by decide +kernel
theorem dX12_keptOf_121 : decode cX12_keptOf 121 = .ok (.goto 5, 3) := by decide +kernel
theorem dX12_keptOf_124 : decode cX12_keptOf 124 = .ok (.iload 7, 2) := by decide +kernel
theorem dX12_keptOf_126 : decode cX12_keptOf 126 = .ok (.istore 7, 2) := by decide +kernel
theorem dX12_keptOf_128 : decode cX12_keptOf 128 = .ok (.iinc 8 1, 3) := by decide +kernel
theorem dX12_keptOf_131 : decode cX12_keptOf 131 = .ok (.goto (-88), 3) := by decide +kernel
theorem dX12_keptOf_134 : decode cX12_keptOf 134 = .ok (.iload 5, 2) := by decide +kernel
theorem dX12_keptOf_136 : decode cX12_keptOf 136 = .ok (.iload 7, 2) := by decide +kernel
theorem dX12_keptOf_138 : decode cX12_keptOf 138 = .ok (.iconst (-1), 1) := by decide +kernel
theorem dX12_keptOf_139 : decode cX12_keptOf 139 = .ok (.if_icmp .ne 7, 3) := by decide +kernel
theorem dX12_keptOf_142 : decode cX12_keptOf 142 = .ok (.iconst 0, 1) := by decide +kernel
theorem dX12_keptOf_143 : decode cX12_keptOf 143 = .ok (.goto 7, 3) := by decide +kernel
theorem dX12_keptOf_146 : decode cX12_keptOf 146 = .ok (.iconst 1, 1) := by decide +kernel
theorem dX12_keptOf_147 : decode cX12_keptOf 147 = .ok (.iload 7, 2) := by decide +kernel
theorem dX12_keptOf_149 : decode cX12_keptOf 149 = .ok (.ishl, 1) := by decide +kernel
theorem dX12_keptOf_150 : decode cX12_keptOf 150 = .ok (.ior, 1) := by decide +kernel
theorem dX12_keptOf_151 : decode cX12_keptOf 151 = .ok (.istore 5, 2) := by decide +kernel
theorem dX12_keptOf_153 : decode cX12_keptOf 153 = .ok (.iinc 6 1, 3) := by decide +kernel
theorem dX12_keptOf_156 : decode cX12_keptOf 156 = .ok (.goto (-126), 3) := by decide +kernel
theorem dX12_keptOf_159 : decode cX12_keptOf 159 = .ok (.iload 5, 2) := by decide +kernel
theorem dX12_keptOf_161 : decode cX12_keptOf 161 = .ok (.ireturn, 1) := by decide +kernel
theorem dX12_kept_0 : decode cX12_kept 0 = .ok (.aload_n 0, 1) := by decide +kernel
theorem dX12_kept_1 : decode cX12_kept 1 = .ok (.iload_n 1, 1) := by decide +kernel
theorem dX12_kept_2 : decode cX12_kept 2 = .ok (.invokevirtual 175, 3) := by decide +kernel
theorem dX12_kept_5 : decode cX12_kept 5 = .ok (.ifCond .eq 17, 3) := by decide +kernel
theorem dX12_kept_8 : decode cX12_kept 8 = .ok (.iload_n 2, 1) := by decide +kernel
theorem dX12_kept_9 : decode cX12_kept 9 = .ok (.i2l, 1) := by decide +kernel
theorem dX12_kept_10 : decode cX12_kept 10 = .ok (.lconst 0, 1) := by decide +kernel
theorem dX12_kept_11 : decode cX12_kept 11 = .ok (.aload_n 0, 1) := by decide +kernel
theorem dX12_kept_12 : decode cX12_kept 12 = .ok (.getfield 172, 3) := by decide +kernel
theorem dX12_kept_15 : decode cX12_kept 15 = .ok (.i2l, 1) := by decide +kernel
theorem dX12_kept_16 : decode cX12_kept 16 = .ok (.invokestatic 139, 3) := by decide +kernel
theorem dX12_kept_19 : decode cX12_kept 19 = .ok (.ifCond .ne 6, 3) := by decide +kernel
theorem dX12_kept_22 : decode cX12_kept 22 = .ok (.bipush (-2), 2) := by decide +kernel
theorem dX12_kept_24 : decode cX12_kept 24 = .ok (.ireturn, 1) := by decide +kernel
theorem dX12_kept_25 : decode cX12_kept 25 = .ok (.aload_n 0, 1) := by decide +kernel
theorem dX12_kept_26 : decode cX12_kept 26 = .ok (.invokevirtual 234, 3) := by decide +kernel
theorem dX12_kept_29 : decode cX12_kept 29 = .ok (.pop, 1) := by decide +kernel
theorem dX12_kept_30 : decode cX12_kept 30 = .ok (.aload_n 0, 1) := by decide +kernel
theorem dX12_kept_31 : decode cX12_kept 31 = .ok (.iload_n 1, 1) := by decide +kernel
theorem dX12_kept_32 : decode cX12_kept 32 = .ok (.iload_n 2, 1) := by decide +kernel
theorem dX12_kept_33 : decode cX12_kept 33 = .ok (.invokevirtual 250, 3) := by decide +kernel
theorem dX12_kept_36 : decode cX12_kept 36 = .ok (.ireturn, 1) := by decide +kernel
theorem dX12_list_0 : decode cX12_list 0 = .ok (.aload_n 0, 1) := by decide +kernel
theorem dX12_list_1 : decode cX12_list 1 = .ok (.iload_n 1, 1) := by decide +kernel
theorem dX12_list_2 : decode cX12_list 2 = .ok (.invokevirtual 190, 3) := by decide +kernel
theorem dX12_list_5 : decode cX12_list 5 = .ok (.ifCond .eq 17, 3) := by decide +kernel
theorem dX12_list_8 : decode cX12_list 8 = .ok (.iload_n 2, 1) := by decide +kernel
theorem dX12_list_9 : decode cX12_list 9 = .ok (.i2l, 1) := by decide +kernel
theorem dX12_list_10 : decode cX12_list 10 = .ok (.ldc2_w 195, 3) := by decide +kernel
theorem dX12_list_13 : decode cX12_list 13 = .ok (.ldc2_w 137, 3) := by decide +kernel
theorem dX12_list_16 : decode cX12_list 16 = .ok (.invokestatic 139, 3) := by decide +kernel
theorem dX12_list_19 : decode cX12_list 19 = .ok (.ifCond .ne 7, 3) := by decide +kernel
theorem dX12_list_22 : decode cX12_list 22 = .ok (.sipush (-1000), 3) := by decide +kernel
theorem dX12_list_25 : decode cX12_list 25 = .ok (.ireturn, 1) := by decide +kernel
theorem dX12_list_26 : decode cX12_list 26 = .ok (.aload_n 0, 1) := by decide +kernel
theorem dX12_list_27 : decode cX12_list 27 = .ok (.getfield 40, 3) := by decide +kernel
theorem dX12_list_30 : decode cX12_list 30 = .ok (.iload_n 1, 1) := by decide +kernel
theorem dX12_list_31 : decode cX12_list 31 = .ok (.iaload, 1) := by decide +kernel
theorem dX12_list_32 : decode cX12_list 32 = .ok (.istore_n 3, 1) := by decide +kernel
theorem dX12_list_33 : decode cX12_list 33 = .ok (.aload_n 0, 1) := by decide +kernel
theorem dX12_list_34 : decode cX12_list 34 = .ok (.getfield 40, 3) := by decide +kernel
theorem dX12_list_37 : decode cX12_list 37 = .ok (.iload_n 1, 1) := by decide +kernel
theorem dX12_list_38 : decode cX12_list 38 = .ok (.iload_n 2, 1) := by decide +kernel
theorem dX12_list_39 : decode cX12_list 39 = .ok (.iastore, 1) := by decide +kernel
theorem dX12_list_40 : decode cX12_list 40 = .ok (.iload_n 3, 1) := by decide +kernel
theorem dX12_list_41 : decode cX12_list 41 = .ok (.ireturn, 1) := by decide +kernel
theorem dX12_gained_0 : decode cX12_gained 0 = .ok (.aload_n 0, 1) := by decide +kernel
theorem dX12_gained_1 : decode cX12_gained 1 = .ok (.iload_n 1, 1) := by decide +kernel
theorem dX12_gained_2 : decode cX12_gained 2 = .ok (.invokevirtual 175, 3) := by decide +kernel
theorem dX12_gained_5 : decode cX12_gained 5 = .ok (.ifCond .eq 10, 3) := by decide +kernel
theorem dX12_gained_8 : decode cX12_gained 8 = .ok (.iload_n 2, 1) := by decide +kernel
theorem dX12_gained_9 : decode cX12_gained 9 = .ok (.invokestatic 244, 3) := by decide +kernel
theorem dX12_gained_12 : decode cX12_gained 12 = .ok (.ifCond .ne 6, 3) := by decide +kernel
theorem dX12_gained_15 : decode cX12_gained 15 = .ok (.ldc 161, 2) := by decide +kernel
theorem dX12_gained_17 : decode cX12_gained 17 = .ok (.ireturn, 1) := by decide +kernel
theorem dX12_gained_18 : decode cX12_gained 18 = .ok (.aload_n 0, 1) := by decide +kernel
theorem dX12_gained_19 : decode cX12_gained 19 = .ok (.invokevirtual 234, 3) := by decide +kernel
theorem dX12_gained_22 : decode cX12_gained 22 = .ok (.pop, 1) := by decide +kernel
theorem dX12_gained_23 : decode cX12_gained 23 = .ok (.iconst 0, 1) := by decide +kernel
theorem dX12_gained_24 : decode cX12_gained 24 = .ok (.istore_n 3, 1) := by decide +kernel
theorem dX12_gained_25 : decode cX12_gained 25 = .ok (.iconst 0, 1) := by decide +kernel
theorem dX12_gained_26 : decode cX12_gained 26 = .ok (.istore 4, 2) := by decide +kernel
theorem dX12_gained_28 : decode cX12_gained 28 = .ok (.iload 4, 2) := by decide +kernel
theorem dX12_gained_30 : decode cX12_gained 30 = .ok (.aload_n 0, 1) := by decide +kernel
theorem dX12_gained_31 : decode cX12_gained 31 = .ok (.getfield 167, 3) := by decide +kernel
theorem dX12_gained_34 : decode cX12_gained 34 = .ok (.if_icmp .ge 61, 3) := by decide +kernel
theorem dX12_gained_37 : decode cX12_gained 37 = .ok (.iload_n 3, 1) := by decide +kernel
theorem dX12_gained_38 : decode cX12_gained 38 = .ok (.aload_n 0, 1) := by decide +kernel
theorem dX12_gained_39 : decode cX12_gained 39 = .ok (.getfield 25, 3) := by decide +kernel
theorem dX12_gained_42 : decode cX12_gained 42 = .ok (.iload 4, 2) := by decide +kernel
theorem dX12_gained_44 : decode cX12_gained 44 = .ok (.iaload, 1) := by decide +kernel
theorem dX12_gained_45 : decode cX12_gained 45 = .ok (.iload_n 1, 1) := by decide +kernel
theorem dX12_gained_46 : decode cX12_gained 46 = .ok (.if_icmp .ne 40, 3) := by decide +kernel
theorem dX12_gained_49 : decode cX12_gained 49 = .ok (.aload_n 0, 1) := by decide +kernel
theorem dX12_gained_50 : decode cX12_gained 50 = .ok (.getfield 40, 3) := by decide +kernel
theorem dX12_gained_53 : decode cX12_gained 53 = .ok (.iload 4, 2) := by decide +kernel
theorem dX12_gained_55 : decode cX12_gained 55 = .ok (.iaload, 1) := by decide +kernel
theorem dX12_gained_56 : decode cX12_gained 56 = .ok (.iconst (-1), 1) := by decide +kernel
theorem dX12_gained_57 : decode cX12_gained 57 = .ok (.if_icmp .eq 29, 3) := by decide +kernel
theorem dX12_gained_60 : decode cX12_gained 60 = .ok (.aload_n 0, 1) := by decide +kernel
theorem dX12_gained_61 : decode cX12_gained 61 = .ok (.getfield 28, 3) := by decide +kernel
theorem dX12_gained_64 : decode cX12_gained 64 = .ok (.iload 4, 2) := by decide +kernel
theorem dX12_gained_66 : decode cX12_gained 66 = .ok (.iaload, 1) := by decide +kernel
theorem dX12_gained_67 : decode cX12_gained 67 = .ok (.aload_n 0, 1) := by decide +kernel
theorem dX12_gained_68 : decode cX12_gained 68 = .ok (.getfield 40, 3) := by decide +kernel
theorem dX12_gained_71 : decode cX12_gained 71 = .ok (.iload 4, 2) := by decide +kernel
theorem dX12_gained_73 : decode cX12_gained 73 = .ok (.iaload, 1) := by decide +kernel
theorem dX12_gained_74 : decode cX12_gained 74 = .ok (.aload_n 0, 1) := by decide +kernel
theorem dX12_gained_75 : decode cX12_gained 75 = .ok (.iload 4, 2) := by decide +kernel
theorem dX12_gained_77 : decode cX12_gained 77 = .ok (.iload_n 2, 1) := by decide +kernel
theorem dX12_gained_78 : decode cX12_gained 78 = .ok (.invokevirtual 247, 3) := by decide +kernel
theorem dX12_gained_81 : decode cX12_gained 81 = .ok (.isub, 1) := by decide +kernel
theorem dX12_gained_82 : decode cX12_gained 82 = .ok (.imul, 1) := by decide +kernel
theorem dX12_gained_83 : decode cX12_gained 83 = .ok (.goto 4, 3) := by decide +kernel
theorem dX12_gained_86 : decode cX12_gained 86 = .ok (.iconst 0, 1) := by decide +kernel
theorem dX12_gained_87 : decode cX12_gained 87 = .ok (.iadd, 1) := by decide +kernel
theorem dX12_gained_88 : decode cX12_gained 88 = .ok (.istore_n 3, 1) := by decide +kernel
theorem dX12_gained_89 : decode cX12_gained 89 = .ok (.iinc 4 1, 3) := by decide +kernel
theorem dX12_gained_92 : decode cX12_gained 92 = .ok (.goto (-64), 3) := by decide +kernel
theorem dX12_gained_95 : decode cX12_gained 95 = .ok (.iload_n 3, 1) := by decide +kernel
theorem dX12_gained_96 : decode cX12_gained 96 = .ok (.ireturn, 1) := by decide +kernel
theorem dX12_isUnnamed_0 : decode cX12_isUnnamed 0 = .ok (.iload_n 1, 1) := by decide +kernel
theorem dX12_isUnnamed_1 : decode cX12_isUnnamed 1 = .ok (.i2l, 1) := by decide +kernel
theorem dX12_isUnnamed_2 : decode cX12_isUnnamed 2 = .ok (.lconst 0, 1) := by decide +kernel
theorem dX12_isUnnamed_3 : decode cX12_isUnnamed 3 = .ok (.aload_n 0, 1) := by decide +kernel
theorem dX12_isUnnamed_4 : decode cX12_isUnnamed 4 = .ok (.getfield 253, 3) := by decide +kernel
theorem dX12_isUnnamed_7 : decode cX12_isUnnamed 7 = .ok (.iconst 1, 1) := by decide +kernel
theorem dX12_isUnnamed_8 : decode cX12_isUnnamed 8 = .ok (.isub, 1) := by decide +kernel
theorem dX12_isUnnamed_9 : decode cX12_isUnnamed 9 = .ok (.i2l, 1) := by decide +kernel
theorem dX12_isUnnamed_10 : decode cX12_isUnnamed 10 = .ok (.invokestatic 139, 3) := by decide +kernel
theorem dX12_isUnnamed_13 : decode cX12_isUnnamed 13 = .ok (.ireturn, 1) := by decide +kernel
theorem dX12_find_0 : decode cX12_find 0 = .ok (.iload_n 1, 1) := by decide +kernel
theorem dX12_find_1 : decode cX12_find 1 = .ok (.invokestatic 143, 3) := by decide +kernel
theorem dX12_find_4 : decode cX12_find 4 = .ok (.ifCond .eq 45, 3) := by decide +kernel
theorem dX12_find_7 : decode cX12_find 7 = .ok (.iload_n 2, 1) := by decide +kernel
theorem dX12_find_8 : decode cX12_find 8 = .ok (.i2l, 1) := by decide +kernel
theorem dX12_find_9 : decode cX12_find 9 = .ok (.lconst 0, 1) := by decide +kernel
theorem dX12_find_10 : decode cX12_find 10 = .ok (.ldc2_w 256, 3) := by decide +kernel
theorem dX12_find_13 : decode cX12_find 13 = .ok (.invokestatic 139, 3) := by decide +kernel
theorem dX12_find_16 : decode cX12_find 16 = .ok (.ifCond .eq 33, 3) := by decide +kernel
theorem dX12_find_19 : decode cX12_find 19 = .ok (.iload_n 3, 1) := by decide +kernel
theorem dX12_find_20 : decode cX12_find 20 = .ok (.iconst (-1), 1) := by decide +kernel
theorem dX12_find_21 : decode cX12_find 21 = .ok (.if_icmp .eq 15, 3) := by decide +kernel
theorem dX12_find_24 : decode cX12_find 24 = .ok (.iload_n 3, 1) := by decide +kernel
theorem dX12_find_25 : decode cX12_find 25 = .ok (.i2l, 1) := by decide +kernel
theorem dX12_find_26 : decode cX12_find 26 = .ok (.lconst 1, 1) := by decide +kernel
theorem dX12_find_27 : decode cX12_find 27 = .ok (.ldc2_w 178, 3) := by decide +kernel
theorem dX12_find_30 : decode cX12_find 30 = .ok (.invokestatic 139, 3) := by decide +kernel
theorem dX12_find_33 : decode cX12_find 33 = .ok (.ifCond .eq 16, 3) := by decide +kernel
theorem dX12_find_36 : decode cX12_find 36 = .ok (.iload 4, 2) := by decide +kernel
theorem dX12_find_38 : decode cX12_find 38 = .ok (.i2l, 1) := by decide +kernel
theorem dX12_find_39 : decode cX12_find 39 = .ok (.lconst 0, 1) := by decide +kernel
theorem dX12_find_40 : decode cX12_find 40 = .ok (.ldc2_w 258, 3) := by decide +kernel
theorem dX12_find_43 : decode cX12_find 43 = .ok (.invokestatic 139, 3) := by decide +kernel
theorem dX12_find_46 : decode cX12_find 46 = .ok (.ifCond .ne 6, 3) := by decide +kernel
theorem dX12_find_49 : decode cX12_find 49 = .ok (.bipush (-2), 2) := by decide +kernel
theorem dX12_find_51 : decode cX12_find 51 = .ok (.ireturn, 1) := by decide +kernel
theorem dX12_find_52 : decode cX12_find 52 = .ok (.aload_n 0, 1) := by decide +kernel
theorem dX12_find_53 : decode cX12_find 53 = .ok (.getfield 7, 3) := by decide +kernel
theorem dX12_find_56 : decode cX12_find 56 = .ok (.iload_n 1, 1) := by decide +kernel
theorem dX12_find_57 : decode cX12_find 57 = .ok (.iaload, 1) := by decide +kernel
theorem dX12_find_58 : decode cX12_find 58 = .ok (.ifCond .ge 9, 3) := by decide +kernel
theorem dX12_find_61 : decode cX12_find 61 = .ok (.aload_n 0, 1) := by decide +kernel
theorem dX12_find_62 : decode cX12_find 62 = .ok (.iconst 1, 1) := by decide +kernel
theorem dX12_find_63 : decode cX12_find 63 = .ok (.invokevirtual 149, 3) := by decide +kernel
theorem dX12_find_66 : decode cX12_find 66 = .ok (.ireturn, 1) := by decide +kernel
theorem dX12_find_67 : decode cX12_find 67 = .ok (.aload_n 0, 1) := by decide +kernel
theorem dX12_find_68 : decode cX12_find 68 = .ok (.getfield 13, 3) := by decide +kernel
theorem dX12_find_71 : decode cX12_find 71 = .ok (.iload_n 1, 1) := by decide +kernel
theorem dX12_find_72 : decode cX12_find 72 = .ok (.iaload, 1) := by decide +kernel
theorem dX12_find_73 : decode cX12_find 73 = .ok (.iconst 5, 1) := by decide +kernel
theorem dX12_find_74 : decode cX12_find 74 = .ok (.if_icmp .ge 9, 3) := by decide +kernel
theorem dX12_find_77 : decode cX12_find 77 = .ok (.aload_n 0, 1) := by decide +kernel
theorem dX12_find_78 : decode cX12_find 78 = .ok (.iconst 2, 1) := by decide +kernel
theorem dX12_find_79 : decode cX12_find 79 = .ok (.invokevirtual 149, 3) := by decide +kernel
theorem dX12_find_82 : decode cX12_find 82 = .ok (.ireturn, 1) := by decide +kernel
theorem dX12_find_83 : decode cX12_find 83 = .ok (.aload_n 0, 1) := by decide +kernel
theorem dX12_find_84 : decode cX12_find 84 = .ok (.getfield 253, 3) := by decide +kernel
theorem dX12_find_87 : decode cX12_find 87 = .ok (.bipush 8, 2) := by decide +kernel
theorem dX12_find_89 : decode cX12_find 89 = .ok (.if_icmp .ne 6, 3) := by decide +kernel
theorem dX12_find_92 : decode cX12_find 92 = .ok (.bipush (-4), 2) := by decide +kernel
theorem dX12_find_94 : decode cX12_find 94 = .ok (.ireturn, 1) := by decide +kernel
theorem dX12_find_95 : decode cX12_find 95 = .ok (.iconst 0, 1) := by decide +kernel
theorem dX12_find_96 : decode cX12_find 96 = .ok (.istore 5, 2) := by decide +kernel
theorem dX12_find_98 : decode cX12_find 98 = .ok (.iload 5, 2) := by decide +kernel
theorem dX12_find_100 : decode cX12_find 100 = .ok (.iconst 5, 1) := by decide +kernel
theorem dX12_find_101 : decode cX12_find 101 = .ok (.if_icmp .ge 56, 3) := by decide +kernel
theorem dX12_find_104 : decode cX12_find 104 = .ok (.aload_n 0, 1) := by decide +kernel
theorem dX12_find_105 : decode cX12_find 105 = .ok (.getfield 16, 3) := by decide +kernel
theorem dX12_find_108 : decode cX12_find 108 = .ok (.bipush 60, 2) := by decide +kernel
theorem dX12_find_110 : decode cX12_find 110 = .ok (.iload_n 1, 1) := by decide +kernel
theorem dX12_find_111 : decode cX12_find 111 = .ok (.imul, 1) := by decide +kernel
theorem dX12_find_112 : decode cX12_find 112 = .ok (.iload 5, 2) := by decide +kernel
theorem dX12_find_114 : decode cX12_find 114 = .ok (.iadd, 1) := by decide +kernel
theorem dX12_find_115 : decode cX12_find 115 = .ok (.iaload, 1) := by decide +kernel
theorem dX12_find_116 : decode cX12_find 116 = .ok (.istore 6, 2) := by decide +kernel
theorem dX12_find_118 : decode cX12_find 118 = .ok (.aload_n 0, 1) := by decide +kernel
theorem dX12_find_119 : decode cX12_find 119 = .ok (.getfield 73, 3) := by decide +kernel
theorem dX12_find_122 : decode cX12_find 122 = .ok (.iconst 5, 1) := by decide +kernel
theorem dX12_find_123 : decode cX12_find 123 = .ok (.aload_n 0, 1) := by decide +kernel
theorem dX12_find_124 : decode cX12_find 124 = .ok (.getfield 253, 3) := by decide +kernel
theorem dX12_find_127 : decode cX12_find 127 = .ok (.imul, 1) := by decide +kernel
theorem dX12_find_128 : decode cX12_find 128 = .ok (.iload 5, 2) := by decide +kernel
theorem dX12_find_130 : decode cX12_find 130 = .ok (.iadd, 1) := by decide +kernel
theorem dX12_find_131 : decode cX12_find 131 = .ok (.iload 6, 2) := by decide +kernel
theorem dX12_find_133 : decode cX12_find 133 = .ok (.i2l, 1) := by decide +kernel
theorem dX12_find_134 : decode cX12_find 134 = .ok (.lconst 0, 1) := by decide +kernel
theorem dX12_find_135 : decode cX12_find 135 = .ok (.ldc2_w 178, 3) := by decide +kernel
theorem dX12_find_138 : decode cX12_find 138 = .ok (.invokestatic 139, 3) := by decide +kernel
theorem dX12_find_141 : decode cX12_find 141 = .ok (.ifCond .eq 8, 3) := by decide +kernel
theorem dX12_find_144 : decode cX12_find 144 = .ok (.iload 6, 2) := by decide +kernel
theorem dX12_find_146 : decode cX12_find 146 = .ok (.goto 4, 3) := by decide +kernel
theorem dX12_find_149 : decode cX12_find 149 = .ok (.iconst (-1), 1) := by decide +kernel
theorem dX12_find_150 : decode cX12_find 150 = .ok (.iastore, 1) := by decide +kernel
theorem dX12_find_151 : decode cX12_find 151 = .ok (.iinc 5 1, 3) := by decide +kernel
theorem dX12_find_154 : decode cX12_find 154 = .ok (.goto (-56), 3) := by decide +kernel
theorem dX12_find_157 : decode cX12_find 157 = .ok (.aload_n 0, 1) := by decide +kernel
theorem dX12_find_158 : decode cX12_find 158 = .ok (.getfield 76, 3) := by decide +kernel
theorem dX12_find_161 : decode cX12_find 161 = .ok (.aload_n 0, 1) := by decide +kernel
theorem dX12_find_162 : decode cX12_find 162 = .ok (.getfield 253, 3) := by decide +kernel
theorem dX12_find_165 : decode cX12_find 165 = .ok (.iload_n 2, 1) := by decide +kernel
theorem dX12_find_166 : decode cX12_find 166 = .ok (.iastore, 1) := by decide +kernel
theorem dX12_find_167 : decode cX12_find 167 = .ok (.aload_n 0, 1) := by decide +kernel
theorem dX12_find_168 : decode cX12_find 168 = .ok (.getfield 79, 3) := by decide +kernel
theorem dX12_find_171 : decode cX12_find 171 = .ok (.aload_n 0, 1) := by decide +kernel
theorem dX12_find_172 : decode cX12_find 172 = .ok (.getfield 253, 3) := by decide +kernel
theorem dX12_find_175 : decode cX12_find 175 = .ok (.iload_n 3, 1) := by decide +kernel
theorem dX12_find_176 : decode cX12_find 176 = .ok (.iastore, 1) := by decide +kernel
theorem dX12_find_177 : decode cX12_find 177 = .ok (.aload_n 0, 1) := by decide +kernel
theorem dX12_find_178 : decode cX12_find 178 = .ok (.getfield 82, 3) := by decide +kernel
theorem dX12_find_181 : decode cX12_find 181 = .ok (.aload_n 0, 1) := by decide +kernel
theorem dX12_find_182 : decode cX12_find 182 = .ok (.getfield 253, 3) := by decide +kernel
theorem dX12_find_185 : decode cX12_find 185 = .ok (.iload 4, 2) := by decide +kernel
theorem dX12_find_187 : decode cX12_find 187 = .ok (.iastore, 1) := by decide +kernel
theorem dX12_find_188 : decode cX12_find 188 = .ok (.aload_n 0, 1) := by decide +kernel
theorem dX12_find_189 : decode cX12_find 189 = .ok (.dup, 1) := by decide +kernel
theorem dX12_find_190 : decode cX12_find 190 = .ok (.getfield 253, 3) := by decide +kernel
theorem dX12_find_193 : decode cX12_find 193 = .ok (.iconst 1, 1) := by decide +kernel
theorem dX12_find_194 : decode cX12_find 194 = .ok (.iadd, 1) := by decide +kernel
theorem dX12_find_195 : decode cX12_find 195 = .ok (.putfield 253, 3) := by decide +kernel
theorem dX12_find_198 : decode cX12_find 198 = .ok (.aload_n 0, 1) := by decide +kernel
theorem dX12_find_199 : decode cX12_find 199 = .ok (.getfield 253, 3) := by decide +kernel
theorem dX12_find_202 : decode cX12_find 202 = .ok (.iconst 1, 1) := by decide +kernel
theorem dX12_find_203 : decode cX12_find 203 = .ok (.isub, 1) := by decide +kernel
theorem dX12_find_204 : decode cX12_find 204 = .ok (.ireturn, 1) := by decide +kernel
theorem dX12_forget_0 : decode cX12_forget 0 = .ok (.aload_n 0, 1) := by decide +kernel
theorem dX12_forget_1 : decode cX12_forget 1 = .ok (.getfield 253, 3) := by decide +kernel
theorem dX12_forget_4 : decode cX12_forget 4 = .ok (.istore_n 1, 1) := by decide +kernel
theorem dX12_forget_5 : decode cX12_forget 5 = .ok (.aload_n 0, 1) := by decide +kernel
theorem dX12_forget_6 : decode cX12_forget 6 = .ok (.iconst 0, 1) := by decide +kernel
theorem dX12_forget_7 : decode cX12_forget 7 = .ok (.putfield 253, 3) := by decide +kernel
theorem dX12_forget_10 : decode cX12_forget 10 = .ok (.iload_n 1, 1) := by decide +kernel
theorem dX12_forget_11 : decode cX12_forget 11 = .ok (.ireturn, 1) := by decide +kernel
theorem dX12_apart_0 : decode cX12_apart 0 = .ok (.iload_n 0, 1) := by decide +kernel
theorem dX12_apart_1 : decode cX12_apart 1 = .ok (.iload_n 1, 1) := by decide +kernel
theorem dX12_apart_2 : decode cX12_apart 2 = .ok (.if_icmp .ge 9, 3) := by decide +kernel
theorem dX12_apart_5 : decode cX12_apart 5 = .ok (.iload_n 1, 1) := by decide +kernel
theorem dX12_apart_6 : decode cX12_apart 6 = .ok (.iload_n 0, 1) := by decide +kernel
theorem dX12_apart_7 : decode cX12_apart 7 = .ok (.isub, 1) := by decide +kernel
theorem dX12_apart_8 : decode cX12_apart 8 = .ok (.goto 6, 3) := by decide +kernel
theorem dX12_apart_11 : decode cX12_apart 11 = .ok (.iload_n 0, 1) := by decide +kernel
theorem dX12_apart_12 : decode cX12_apart 12 = .ok (.iload_n 1, 1) := by decide +kernel
theorem dX12_apart_13 : decode cX12_apart 13 = .ok (.isub, 1) := by decide +kernel
theorem dX12_apart_14 : decode cX12_apart 14 = .ok (.ireturn, 1) := by decide +kernel
theorem dX12_couldBe_0 : decode cX12_couldBe 0 = .ok (.aload_n 0, 1) := by decide +kernel
theorem dX12_couldBe_1 : decode cX12_couldBe 1 = .ok (.iload_n 2, 1) := by decide +kernel
theorem dX12_couldBe_2 : decode cX12_couldBe 2 = .ok (.invokevirtual 200, 3) := by decide +kernel
theorem dX12_couldBe_5 : decode cX12_couldBe 5 = .ok (.iconst 3, 1) := by decide +kernel
theorem dX12_couldBe_6 : decode cX12_couldBe 6 = .ok (.if_icmp .ne 41, 3) := by decide +kernel
theorem dX12_couldBe_9 : decode cX12_couldBe 9 = .ok (.aload_n 0, 1) := by decide +kernel
theorem dX12_couldBe_10 : decode cX12_couldBe 10 = .ok (.getfield 79, 3) := by decide +kernel
theorem dX12_couldBe_13 : decode cX12_couldBe 13 = .ok (.iload_n 1, 1) := by decide +kernel
theorem dX12_couldBe_14 : decode cX12_couldBe 14 = .ok (.iaload, 1) := by decide +kernel
theorem dX12_couldBe_15 : decode cX12_couldBe 15 = .ok (.iconst (-1), 1) := by decide +kernel
theorem dX12_couldBe_16 : decode cX12_couldBe 16 = .ok (.if_icmp .eq 27, 3) := by decide +kernel
theorem dX12_couldBe_19 : decode cX12_couldBe 19 = .ok (.aload_n 0, 1) := by decide +kernel
theorem dX12_couldBe_20 : decode cX12_couldBe 20 = .ok (.getfield 79, 3) := by decide +kernel
theorem dX12_couldBe_23 : decode cX12_couldBe 23 = .ok (.iload_n 1, 1) := by decide +kernel
theorem dX12_couldBe_24 : decode cX12_couldBe 24 = .ok (.iaload, 1) := by decide +kernel
theorem dX12_couldBe_25 : decode cX12_couldBe 25 = .ok (.aload_n 0, 1) := by decide +kernel
theorem dX12_couldBe_26 : decode cX12_couldBe 26 = .ok (.getfield 28, 3) := by decide +kernel
theorem dX12_couldBe_29 : decode cX12_couldBe 29 = .ok (.iload_n 2, 1) := by decide +kernel
theorem dX12_couldBe_30 : decode cX12_couldBe 30 = .ok (.iaload, 1) := by decide +kernel
theorem dX12_couldBe_31 : decode cX12_couldBe 31 = .ok (.invokestatic 260, 3) := by decide +kernel
theorem dX12_couldBe_34 : decode cX12_couldBe 34 = .ok (.aload_n 0, 1) := by decide +kernel
theorem dX12_couldBe_35 : decode cX12_couldBe 35 = .ok (.getfield 82, 3) := by decide +kernel
theorem dX12_couldBe_38 : decode cX12_couldBe 38 = .ok (.iload_n 1, 1) := by decide +kernel
theorem dX12_couldBe_39 : decode cX12_couldBe 39 = .ok (.iaload, 1) := by decide +kernel
theorem dX12_couldBe_40 : decode cX12_couldBe 40 = .ok (.if_icmp .gt 7, 3) := by decide +kernel
theorem dX12_couldBe_43 : decode cX12_couldBe 43 = .ok (.iconst 1, 1) := by decide +kernel
theorem dX12_couldBe_44 : decode cX12_couldBe 44 = .ok (.goto 4, 3) := by decide +kernel
theorem dX12_couldBe_47 : decode cX12_couldBe 47 = .ok (.iconst 0, 1) := by decide +kernel
theorem dX12_couldBe_48 : decode cX12_couldBe 48 = .ok (.istore_n 3, 1) := by decide +kernel
theorem dX12_couldBe_49 : decode cX12_couldBe 49 = .ok (.iconst 0, 1) := by decide +kernel
theorem dX12_couldBe_50 : decode cX12_couldBe 50 = .ok (.istore 4, 2) := by decide +kernel
theorem dX12_couldBe_52 : decode cX12_couldBe 52 = .ok (.iload 4, 2) := by decide +kernel
theorem dX12_couldBe_54 : decode cX12_couldBe 54 = .ok (.iconst 5, 1) := by decide +kernel
theorem dX12_couldBe_55 : decode cX12_couldBe 55 = .ok (.if_icmp .ge 73, 3) := by decide +kernel
theorem dX12_couldBe_58 : decode cX12_couldBe 58 = .ok (.aload_n 0, 1) := by decide +kernel
theorem dX12_couldBe_59 : decode cX12_couldBe 59 = .ok (.getfield 73, 3) := by decide +kernel
theorem dX12_couldBe_62 : decode cX12_couldBe 62 = .ok (.iconst 5, 1) := by decide +kernel
theorem dX12_couldBe_63 : decode cX12_couldBe 63 = .ok (.iload_n 1, 1) := by decide +kernel
theorem dX12_couldBe_64 : decode cX12_couldBe 64 = .ok (.imul, 1) := by decide +kernel
theorem dX12_couldBe_65 : decode cX12_couldBe 65 = .ok (.iload 4, 2) := by decide +kernel
theorem dX12_couldBe_67 : decode cX12_couldBe 67 = .ok (.iadd, 1) := by decide +kernel
theorem dX12_couldBe_68 : decode cX12_couldBe 68 = .ok (.iaload, 1) := by decide +kernel
theorem dX12_couldBe_69 : decode cX12_couldBe 69 = .ok (.istore 5, 2) := by decide +kernel
theorem dX12_couldBe_71 : decode cX12_couldBe 71 = .ok (.aload_n 0, 1) := by decide +kernel
theorem dX12_couldBe_72 : decode cX12_couldBe 72 = .ok (.getfield 37, 3) := by decide +kernel
theorem dX12_couldBe_75 : decode cX12_couldBe 75 = .ok (.iconst 5, 1) := by decide +kernel
theorem dX12_couldBe_76 : decode cX12_couldBe 76 = .ok (.iload_n 2, 1) := by decide +kernel
theorem dX12_couldBe_77 : decode cX12_couldBe 77 = .ok (.imul, 1) := by decide +kernel
theorem dX12_couldBe_78 : decode cX12_couldBe 78 = .ok (.iload 4, 2) := by decide +kernel
theorem dX12_couldBe_80 : decode cX12_couldBe 80 = .ok (.iadd, 1) := by decide +kernel
theorem dX12_couldBe_81 : decode cX12_couldBe 81 = .ok (.iaload, 1) := by decide +kernel
theorem dX12_couldBe_82 : decode cX12_couldBe 82 = .ok (.istore 6, 2) := by decide +kernel
theorem dX12_couldBe_84 : decode cX12_couldBe 84 = .ok (.iload_n 3, 1) := by decide +kernel
theorem dX12_couldBe_85 : decode cX12_couldBe 85 = .ok (.ifCond .eq 35, 3) := by decide +kernel
theorem dX12_couldBe_88 : decode cX12_couldBe 88 = .ok (.iload 5, 2) := by decide +kernel
theorem dX12_couldBe_90 : decode cX12_couldBe 90 = .ok (.iconst (-1), 1) := by decide +kernel
theorem dX12_couldBe_91 : decode cX12_couldBe 91 = .ok (.if_icmp .eq 25, 3) := by decide +kernel
theorem dX12_couldBe_94 : decode cX12_couldBe 94 = .ok (.iload 6, 2) := by decide +kernel
theorem dX12_couldBe_96 : decode cX12_couldBe 96 = .ok (.iconst (-1), 1) := by decide +kernel
theorem dX12_couldBe_97 : decode cX12_couldBe 97 = .ok (.if_icmp .eq 19, 3) := by decide +kernel
theorem dX12_couldBe_100 : decode cX12_couldBe 100 = .ok (.iload 5, 2) := by decide +kernel
theorem dX12_couldBe_102 : decode cX12_couldBe 102 = .ok (.iload 6, 2) := by decide +kernel
theorem dX12_couldBe_104 : decode cX12_couldBe 104 = .ok (.invokestatic 260, 3) := by decide +kernel
theorem dX12_couldBe_107 : decode cX12_couldBe 107 = .ok (.aload_n 0, 1) := by decide +kernel
theorem dX12_couldBe_108 : decode cX12_couldBe 108 = .ok (.getfield 76, 3) := by decide +kernel
theorem dX12_couldBe_111 : decode cX12_couldBe 111 = .ok (.iload_n 1, 1) := by decide +kernel
theorem dX12_couldBe_112 : decode cX12_couldBe 112 = .ok (.iaload, 1) := by decide +kernel
theorem dX12_couldBe_113 : decode cX12_couldBe 113 = .ok (.if_icmp .gt 7, 3) := by decide +kernel
theorem dX12_couldBe_116 : decode cX12_couldBe 116 = .ok (.iconst 1, 1) := by decide +kernel
theorem dX12_couldBe_117 : decode cX12_couldBe 117 = .ok (.goto 4, 3) := by decide +kernel
theorem dX12_couldBe_120 : decode cX12_couldBe 120 = .ok (.iconst 0, 1) := by decide +kernel
theorem dX12_couldBe_121 : decode cX12_couldBe 121 = .ok (.istore_n 3, 1) := by decide +kernel
theorem dX12_couldBe_122 : decode cX12_couldBe 122 = .ok (.iinc 4 1, 3) := by decide +kernel
theorem dX12_couldBe_125 : decode cX12_couldBe 125 = .ok (.goto (-73), 3) := by decide +kernel
theorem dX12_couldBe_128 : decode cX12_couldBe 128 = .ok (.iload_n 3, 1) := by decide +kernel
theorem dX12_couldBe_129 : decode cX12_couldBe 129 = .ok (.ireturn, 1) := by decide +kernel
theorem dX12_couldOf_0 : decode cX12_couldOf 0 = .ok (.iconst 0, 1) := by decide +kernel
theorem dX12_couldOf_1 : decode cX12_couldOf 1 = .ok (.istore_n 2, 1) := by decide +kernel
theorem dX12_couldOf_2 : decode cX12_couldOf 2 = .ok (.iconst 0, 1) := by decide +kernel
theorem dX12_couldOf_3 : decode cX12_couldOf 3 = .ok (.istore_n 3, 1) := by decide +kernel
theorem dX12_couldOf_4 : decode cX12_couldOf 4 = .ok (.iload_n 3, 1) := by decide +kernel
theorem dX12_couldOf_5 : decode cX12_couldOf 5 = .ok (.aload_n 0, 1) := by decide +kernel
theorem dX12_couldOf_6 : decode cX12_couldOf 6 = .ok (.getfield 167, 3) := by decide +kernel
theorem dX12_couldOf_9 : decode cX12_couldOf 9 = .ok (.if_icmp .ge 28, 3) := by decide +kernel
theorem dX12_couldOf_12 : decode cX12_couldOf 12 = .ok (.iload_n 2, 1) := by decide +kernel
theorem dX12_couldOf_13 : decode cX12_couldOf 13 = .ok (.aload_n 0, 1) := by decide +kernel
theorem dX12_couldOf_14 : decode cX12_couldOf 14 = .ok (.iload_n 1, 1) := by decide +kernel
theorem dX12_couldOf_15 : decode cX12_couldOf 15 = .ok (.iload_n 3, 1) := by decide +kernel
theorem dX12_couldOf_16 : decode cX12_couldOf 16 = .ok (.invokevirtual 263, 3) := by decide +kernel
theorem dX12_couldOf_19 : decode cX12_couldOf 19 = .ok (.ifCond .eq 9, 3) := by decide +kernel
theorem dX12_couldOf_22 : decode cX12_couldOf 22 = .ok (.iconst 1, 1) := by decide +kernel
theorem dX12_couldOf_23 : decode cX12_couldOf 23 = .ok (.iload_n 3, 1) := by decide +kernel
theorem dX12_couldOf_24 : decode cX12_couldOf 24 = .ok (.ishl, 1) := by decide +kernel
theorem dX12_couldOf_25 : decode cX12_couldOf 25 = .ok (.goto 4, 3) := by decide +kernel
theorem dX12_couldOf_28 : decode cX12_couldOf 28 = .ok (.iconst 0, 1) := by decide +kernel
theorem dX12_couldOf_29 : decode cX12_couldOf 29 = .ok (.ior, 1) := by decide +kernel
theorem dX12_couldOf_30 : decode cX12_couldOf 30 = .ok (.istore_n 2, 1) := by decide +kernel
theorem dX12_couldOf_31 : decode cX12_couldOf 31 = .ok (.iinc 3 1, 3) := by decide +kernel
theorem dX12_couldOf_34 : decode cX12_couldOf 34 = .ok (.goto (-30), 3) := by decide +kernel
theorem dX12_couldOf_37 : decode cX12_couldOf 37 = .ok (.iload_n 2, 1) := by decide +kernel
theorem dX12_couldOf_38 : decode cX12_couldOf 38 = .ok (.ireturn, 1) := by decide +kernel
theorem dX12_could_0 : decode cX12_could 0 = .ok (.aload_n 0, 1) := by decide +kernel
theorem dX12_could_1 : decode cX12_could 1 = .ok (.iload_n 1, 1) := by decide +kernel
theorem dX12_could_2 : decode cX12_could 2 = .ok (.invokevirtual 266, 3) := by decide +kernel
theorem dX12_could_5 : decode cX12_could 5 = .ok (.ifCond .eq 11, 3) := by decide +kernel
theorem dX12_could_8 : decode cX12_could 8 = .ok (.aload_n 0, 1) := by decide +kernel
theorem dX12_could_9 : decode cX12_could 9 = .ok (.iload_n 1, 1) := by decide +kernel
theorem dX12_could_10 : decode cX12_could 10 = .ok (.invokevirtual 269, 3) := by decide +kernel
theorem dX12_could_13 : decode cX12_could 13 = .ok (.goto 5, 3) := by decide +kernel
theorem dX12_could_16 : decode cX12_could 16 = .ok (.bipush (-2), 2) := by decide +kernel
theorem dX12_could_18 : decode cX12_could 18 = .ok (.ireturn, 1) := by decide +kernel
theorem dX12_ones_0 : decode cX12_ones 0 = .ok (.iconst 0, 1) := by decide +kernel
theorem dX12_ones_1 : decode cX12_ones 1 = .ok (.istore_n 1, 1) := by decide +kernel
theorem dX12_ones_2 : decode cX12_ones 2 = .ok (.iload_n 0, 1) := by decide +kernel
theorem dX12_ones_3 : decode cX12_ones 3 = .ok (.istore_n 2, 1) := by decide +kernel
theorem dX12_ones_4 : decode cX12_ones 4 = .ok (.iload_n 2, 1) := by decide +kernel
theorem dX12_ones_5 : decode cX12_ones 5 = .ok (.ifCond .eq 15, 3) := by decide +kernel
theorem dX12_ones_8 : decode cX12_ones 8 = .ok (.iinc 1 1, 3) := by decide +kernel
theorem dX12_ones_11 : decode cX12_ones 11 = .ok (.iload_n 2, 1) := by decide +kernel
theorem dX12_ones_12 : decode cX12_ones 12 = .ok (.iload_n 2, 1) := by decide +kernel
theorem dX12_ones_13 : decode cX12_ones 13 = .ok (.iconst 1, 1) := by decide +kernel
theorem dX12_ones_14 : decode cX12_ones 14 = .ok (.isub, 1) := by decide +kernel
theorem dX12_ones_15 : decode cX12_ones 15 = .ok (.iand, 1) := by decide +kernel
theorem dX12_ones_16 : decode cX12_ones 16 = .ok (.istore_n 2, 1) := by decide +kernel
theorem dX12_ones_17 : decode cX12_ones 17 = .ok (.goto (-13), 3) := by decide +kernel
theorem dX12_ones_20 : decode cX12_ones 20 = .ok (.iload_n 1, 1) := by decide +kernel
theorem dX12_ones_21 : decode cX12_ones 21 = .ok (.ireturn, 1) := by decide +kernel
theorem dX12_partOfTone_0 : decode cX12_partOfTone 0 = .ok (.aload_n 0, 1) := by decide +kernel
theorem dX12_partOfTone_1 : decode cX12_partOfTone 1 = .ok (.getfield 37, 3) := by decide +kernel
theorem dX12_partOfTone_4 : decode cX12_partOfTone 4 = .ok (.iconst 5, 1) := by decide +kernel
theorem dX12_partOfTone_5 : decode cX12_partOfTone 5 = .ok (.iload_n 2, 1) := by decide +kernel
theorem dX12_partOfTone_6 : decode cX12_partOfTone 6 = .ok (.imul, 1) := by decide +kernel
theorem dX12_partOfTone_7 : decode cX12_partOfTone 7 = .ok (.iload_n 3, 1) := by decide +kernel
theorem dX12_partOfTone_8 : decode cX12_partOfTone 8 = .ok (.iadd, 1) := by decide +kernel
theorem dX12_partOfTone_9 : decode cX12_partOfTone 9 = .ok (.iaload, 1) := by decide +kernel
theorem dX12_partOfTone_10 : decode cX12_partOfTone 10 = .ok (.istore 4, 2) := by decide +kernel
theorem dX12_partOfTone_12 : decode cX12_partOfTone 12 = .ok (.iload 4, 2) := by decide +kernel
theorem dX12_partOfTone_14 : decode cX12_partOfTone 14 = .ok (.iconst (-1), 1) := by decide +kernel
theorem dX12_partOfTone_15 : decode cX12_partOfTone 15 = .ok (.if_icmp .ne 7, 3) := by decide +kernel
theorem dX12_partOfTone_18 : decode cX12_partOfTone 18 = .ok (.iconst (-1), 1) := by decide +kernel
theorem dX12_partOfTone_19 : decode cX12_partOfTone 19 = .ok (.goto 16, 3) := by decide +kernel
theorem dX12_partOfTone_22 : decode cX12_partOfTone 22 = .ok (.iload 4, 2) := by decide +kernel
theorem dX12_partOfTone_24 : decode cX12_partOfTone 24 = .ok (.iconst 2, 1) := by decide +kernel
theorem dX12_partOfTone_25 : decode cX12_partOfTone 25 = .ok (.aload_n 0, 1) := by decide +kernel
theorem dX12_partOfTone_26 : decode cX12_partOfTone 26 = .ok (.getfield 76, 3) := by decide +kernel
theorem dX12_partOfTone_29 : decode cX12_partOfTone 29 = .ok (.iload_n 1, 1) := by decide +kernel
theorem dX12_partOfTone_30 : decode cX12_partOfTone 30 = .ok (.iaload, 1) := by decide +kernel
theorem dX12_partOfTone_31 : decode cX12_partOfTone 31 = .ok (.imul, 1) := by decide +kernel
theorem dX12_partOfTone_32 : decode cX12_partOfTone 32 = .ok (.iconst 1, 1) := by decide +kernel
theorem dX12_partOfTone_33 : decode cX12_partOfTone 33 = .ok (.iadd, 1) := by decide +kernel
theorem dX12_partOfTone_34 : decode cX12_partOfTone 34 = .ok (.idiv, 1) := by decide +kernel
theorem dX12_partOfTone_35 : decode cX12_partOfTone 35 = .ok (.ireturn, 1) := by decide +kernel
theorem dX12_next_0 : decode cX12_next 0 = .ok (.aload_n 0, 1) := by decide +kernel
theorem dX12_next_1 : decode cX12_next 1 = .ok (.iload_n 1, 1) := by decide +kernel
theorem dX12_next_2 : decode cX12_next 2 = .ok (.invokevirtual 266, 3) := by decide +kernel
theorem dX12_next_5 : decode cX12_next 5 = .ok (.ifCond .ne 6, 3) := by decide +kernel
theorem dX12_next_8 : decode cX12_next 8 = .ok (.bipush (-2), 2) := by decide +kernel
theorem dX12_next_10 : decode cX12_next 10 = .ok (.ireturn, 1) := by decide +kernel
theorem dX12_next_11 : decode cX12_next 11 = .ok (.aload_n 0, 1) := by decide +kernel
theorem dX12_next_12 : decode cX12_next 12 = .ok (.iload_n 1, 1) := by decide +kernel
theorem dX12_next_13 : decode cX12_next 13 = .ok (.invokevirtual 269, 3) := by decide +kernel
theorem dX12_next_16 : decode cX12_next 16 = .ok (.istore_n 2, 1) := by decide +kernel
theorem dX12_next_17 : decode cX12_next 17 = .ok (.iload_n 2, 1) := by decide +kernel
theorem dX12_next_18 : decode cX12_next 18 = .ok (.invokestatic 272, 3) := by decide +kernel
theorem dX12_next_21 : decode cX12_next 21 = .ok (.iconst 2, 1) := by decide +kernel
theorem dX12_next_22 : decode cX12_next 22 = .ok (.if_icmp .ge 5, 3) := by decide +kernel
theorem dX12_next_25 : decode cX12_next 25 = .ok (.iconst (-1), 1) := by decide +kernel
theorem dX12_next_26 : decode cX12_next 26 = .ok (.ireturn, 1) := by decide +kernel
theorem dX12_next_27 : decode cX12_next 27 = .ok (.iconst (-1), 1) := by decide +kernel
theorem dX12_next_28 : decode cX12_next 28 = .ok (.istore_n 3, 1) := by decide +kernel
theorem dX12_next_29 : decode cX12_next 29 = .ok (.iconst 0, 1) := by decide +kernel
theorem dX12_next_30 : decode cX12_next 30 = .ok (.istore 4, 2) := by decide +kernel
theorem dX12_next_32 : decode cX12_next 32 = .ok (.iconst 0, 1) := by decide +kernel
theorem dX12_next_33 : decode cX12_next 33 = .ok (.istore 5, 2) := by decide +kernel
theorem dX12_next_35 : decode cX12_next 35 = .ok (.iload 5, 2) := by decide +kernel
theorem dX12_next_37 : decode cX12_next 37 = .ok (.iconst 5, 1) := by decide +kernel
theorem dX12_next_38 : decode cX12_next 38 = .ok (.if_icmp .ge 152, 3) := by decide +kernel
theorem dX12_next_41 : decode cX12_next 41 = .ok (.aload_n 0, 1) := by decide +kernel
theorem dX12_next_42 : decode cX12_next 42 = .ok (.getfield 73, 3) := by decide +kernel
theorem dX12_next_45 : decode cX12_next 45 = .ok (.iconst 5, 1) := by decide +kernel
theorem dX12_next_46 : decode cX12_next 46 = .ok (.iload_n 1, 1) := by decide +kernel
theorem dX12_next_47 : decode cX12_next 47 = .ok (.imul, 1) := by decide +kernel
theorem dX12_next_48 : decode cX12_next 48 = .ok (.iload 5, 2) := by decide +kernel
theorem dX12_next_50 : decode cX12_next 50 = .ok (.iadd, 1) := by decide +kernel
theorem dX12_next_51 : decode cX12_next 51 = .ok (.iaload, 1) := by decide +kernel
theorem dX12_next_52 : decode cX12_next 52 = .ok (.iconst (-1), 1) := by decide +kernel
theorem dX12_next_53 : decode cX12_next 53 = .ok (.if_icmp .ne 131, 3) := by decide +kernel
theorem dX12_next_56 : decode cX12_next 56 = .ok (.iconst 0, 1) := by decide +kernel
theorem dX12_next_57 : decode cX12_next 57 = .ok (.istore 6, 2) := by decide +kernel
theorem dX12_next_59 : decode cX12_next 59 = .ok (.iconst 0, 1) := by decide +kernel
theorem dX12_next_60 : decode cX12_next 60 = .ok (.istore 7, 2) := by decide +kernel
theorem dX12_next_62 : decode cX12_next 62 = .ok (.iload 7, 2) := by decide +kernel
theorem dX12_next_64 : decode cX12_next 64 = .ok (.aload_n 0, 1) := by decide +kernel
theorem dX12_next_65 : decode cX12_next 65 = .ok (.getfield 167, 3) := by decide +kernel
theorem dX12_next_68 : decode cX12_next 68 = .ok (.if_icmp .ge 97, 3) := by decide +kernel
theorem dX12_next_71 : decode cX12_next 71 = .ok (.iconst 0, 1) := by decide +kernel
theorem dX12_next_72 : decode cX12_next 72 = .ok (.istore 8, 2) := by decide +kernel
theorem dX12_next_74 : decode cX12_next 74 = .ok (.iconst 0, 1) := by decide +kernel
theorem dX12_next_75 : decode cX12_next 75 = .ok (.istore 9, 2) := by decide +kernel
theorem dX12_next_77 : decode cX12_next 77 = .ok (.iload 9, 2) := by decide +kernel
theorem dX12_next_79 : decode cX12_next 79 = .ok (.aload_n 0, 1) := by decide +kernel
theorem dX12_next_80 : decode cX12_next 80 = .ok (.getfield 167, 3) := by decide +kernel
theorem dX12_next_83 : decode cX12_next 83 = .ok (.if_icmp .ge 50, 3) := by decide +kernel
theorem dX12_next_86 : decode cX12_next 86 = .ok (.iload 8, 2) := by decide +kernel
theorem dX12_next_88 : decode cX12_next 88 = .ok (.iload_n 2, 1) := by decide +kernel
theorem dX12_next_89 : decode cX12_next 89 = .ok (.iload 9, 2) := by decide +kernel
theorem dX12_next_91 : decode cX12_next 91 = .ok (.ishr, 1) := by decide +kernel
theorem dX12_next_92 : decode cX12_next 92 = .ok (.iconst 1, 1) := by decide +kernel
theorem dX12_next_93 : decode cX12_next 93 = .ok (.iand, 1) := by decide +kernel
theorem dX12_next_94 : decode cX12_next 94 = .ok (.iconst 1, 1) := by decide +kernel
theorem dX12_next_95 : decode cX12_next 95 = .ok (.if_icmp .ne 28, 3) := by decide +kernel
theorem dX12_next_98 : decode cX12_next 98 = .ok (.aload_n 0, 1) := by decide +kernel
theorem dX12_next_99 : decode cX12_next 99 = .ok (.iload_n 1, 1) := by decide +kernel
theorem dX12_next_100 : decode cX12_next 100 = .ok (.iload 7, 2) := by decide +kernel
theorem dX12_next_102 : decode cX12_next 102 = .ok (.iload 5, 2) := by decide +kernel
theorem dX12_next_104 : decode cX12_next 104 = .ok (.invokevirtual 275, 3) := by decide +kernel
theorem dX12_next_107 : decode cX12_next 107 = .ok (.aload_n 0, 1) := by decide +kernel
theorem dX12_next_108 : decode cX12_next 108 = .ok (.iload_n 1, 1) := by decide +kernel
theorem dX12_next_109 : decode cX12_next 109 = .ok (.iload 9, 2) := by decide +kernel
theorem dX12_next_111 : decode cX12_next 111 = .ok (.iload 5, 2) := by decide +kernel
theorem dX12_next_113 : decode cX12_next 113 = .ok (.invokevirtual 275, 3) := by decide +kernel
theorem dX12_next_116 : decode cX12_next 116 = .ok (.if_icmp .ne 7, 3) := by decide +kernel
theorem dX12_next_119 : decode cX12_next 119 = .ok (.iconst 1, 1) := by decide +kernel
theorem dX12_next_120 : decode cX12_next 120 = .ok (.goto 4, 3) := by decide +kernel
theorem dX12_next_123 : decode cX12_next 123 = .ok (.iconst 0, 1) := by decide +kernel
theorem dX12_next_124 : decode cX12_next 124 = .ok (.iadd, 1) := by decide +kernel
theorem dX12_next_125 : decode cX12_next 125 = .ok (.istore 8, 2) := by decide +kernel
theorem dX12_next_127 : decode cX12_next 127 = .ok (.iinc 9 1, 3) := by decide +kernel
theorem dX12_next_130 : decode cX12_next 130 = .ok (.goto (-53), 3) := by decide +kernel
theorem dX12_next_133 : decode cX12_next 133 = .ok (.iload_n 2, 1) := by decide +kernel
theorem dX12_next_134 : decode cX12_next 134 = .ok (.iload 7, 2) := by decide +kernel
theorem dX12_next_136 : decode cX12_next 136 = .ok (.ishr, 1) := by decide +kernel
theorem dX12_next_137 : decode cX12_next 137 = .ok (.iconst 1, 1) := by decide +kernel
theorem dX12_next_138 : decode cX12_next 138 = .ok (.iand, 1) := by decide +kernel
theorem dX12_next_139 : decode cX12_next 139 = .ok (.iconst 1, 1) := by decide +kernel
theorem dX12_next_140 : decode cX12_next 140 = .ok (.if_icmp .ne 15, 3) := by decide +kernel
theorem dX12_next_143 : decode cX12_next 143 = .ok (.iload 8, 2) := by decide +kernel
theorem dX12_next_145 : decode cX12_next 145 = .ok (.iload 6, 2) := by decide +kernel
theorem dX12_next_147 : decode cX12_next 147 = .ok (.if_icmp .le 8, 3) := by decide +kernel
theorem dX12_next_150 : decode cX12_next 150 = .ok (.iload 8, 2) := by decide +kernel
theorem dX12_next_152 : decode cX12_next 152 = .ok (.goto 5, 3) := by decide +kernel
theorem dX12_next_155 : decode cX12_next 155 = .ok (.iload 6, 2) := by decide +kernel
theorem dX12_next_157 : decode cX12_next 157 = .ok (.istore 6, 2) := by decide +kernel
theorem dX12_next_159 : decode cX12_next 159 = .ok (.iinc 7 1, 3) := by decide +kernel
theorem dX12_next_162 : decode cX12_next 162 = .ok (.goto (-100), 3) := by decide +kernel
theorem dX12_next_165 : decode cX12_next 165 = .ok (.iload_n 3, 1) := by decide +kernel
theorem dX12_next_166 : decode cX12_next 166 = .ok (.iconst (-1), 1) := by decide +kernel
theorem dX12_next_167 : decode cX12_next 167 = .ok (.if_icmp .eq 10, 3) := by decide +kernel
theorem dX12_next_170 : decode cX12_next 170 = .ok (.iload 6, 2) := by decide +kernel
theorem dX12_next_172 : decode cX12_next 172 = .ok (.iload 4, 2) := by decide +kernel
theorem dX12_next_174 : decode cX12_next 174 = .ok (.if_icmp .ge 10, 3) := by decide +kernel
theorem dX12_next_177 : decode cX12_next 177 = .ok (.iload 5, 2) := by decide +kernel
theorem dX12_next_179 : decode cX12_next 179 = .ok (.istore_n 3, 1) := by decide +kernel
theorem dX12_next_180 : decode cX12_next 180 = .ok (.iload 6, 2) := by decide +kernel
theorem dX12_next_182 : decode cX12_next 182 = .ok (.istore 4, 2) := by decide +kernel
theorem dX12_next_184 : decode cX12_next 184 = .ok (.iinc 5 1, 3) := by decide +kernel
theorem dX12_next_187 : decode cX12_next 187 = .ok (.goto (-152), 3) := by decide +kernel
theorem dX12_next_190 : decode cX12_next 190 = .ok (.iload_n 3, 1) := by decide +kernel
theorem dX12_next_191 : decode cX12_next 191 = .ok (.ireturn, 1) := by decide +kernel
theorem dX12_differences_0 : decode cX12_differences 0 = .ok (.iconst 0, 1) := by decide +kernel
theorem dX12_differences_1 : decode cX12_differences 1 = .ok (.istore_n 3, 1) := by decide +kernel
theorem dX12_differences_2 : decode cX12_differences 2 = .ok (.iconst 0, 1) := by decide +kernel
theorem dX12_differences_3 : decode cX12_differences 3 = .ok (.istore 4, 2) := by decide +kernel
theorem dX12_differences_5 : decode cX12_differences 5 = .ok (.iload 4, 2) := by decide +kernel
theorem dX12_differences_7 : decode cX12_differences 7 = .ok (.iconst 5, 1) := by decide +kernel
theorem dX12_differences_8 : decode cX12_differences 8 = .ok (.if_icmp .ge 61, 3) := by decide +kernel
theorem dX12_differences_11 : decode cX12_differences 11 = .ok (.aload_n 0, 1) := by decide +kernel
theorem dX12_differences_12 : decode cX12_differences 12 = .ok (.getfield 73, 3) := by decide +kernel
theorem dX12_differences_15 : decode cX12_differences 15 = .ok (.iconst 5, 1) := by decide +kernel
theorem dX12_differences_16 : decode cX12_differences 16 = .ok (.iload_n 1, 1) := by decide +kernel
theorem dX12_differences_17 : decode cX12_differences 17 = .ok (.imul, 1) := by decide +kernel
theorem dX12_differences_18 : decode cX12_differences 18 = .ok (.iload 4, 2) := by decide +kernel
theorem dX12_differences_20 : decode cX12_differences 20 = .ok (.iadd, 1) := by decide +kernel
theorem dX12_differences_21 : decode cX12_differences 21 = .ok (.iaload, 1) := by decide +kernel
theorem dX12_differences_22 : decode cX12_differences 22 = .ok (.istore 5, 2) := by decide +kernel
theorem dX12_differences_24 : decode cX12_differences 24 = .ok (.aload_n 0, 1) := by decide +kernel
theorem dX12_differences_25 : decode cX12_differences 25 = .ok (.getfield 37, 3) := by decide +kernel
theorem dX12_differences_28 : decode cX12_differences 28 = .ok (.iconst 5, 1) := by decide +kernel
theorem dX12_differences_29 : decode cX12_differences 29 = .ok (.iload_n 2, 1) := by decide +kernel
theorem dX12_differences_30 : decode cX12_differences 30 = .ok (.imul, 1) := by decide +kernel
theorem dX12_differences_31 : decode cX12_differences 31 = .ok (.iload 4, 2) := by decide +kernel
theorem dX12_differences_33 : decode cX12_differences 33 = .ok (.iadd, 1) := by decide +kernel
theorem dX12_differences_34 : decode cX12_differences 34 = .ok (.iaload, 1) := by decide +kernel
theorem dX12_differences_35 : decode cX12_differences 35 = .ok (.istore 6, 2) := by decide +kernel
theorem dX12_differences_37 : decode cX12_differences 37 = .ok (.iload_n 3, 1) := by decide +kernel
theorem dX12_differences_38 : decode cX12_differences 38 = .ok (.iload 5, 2) := by decide +kernel
theorem dX12_differences_40 : decode cX12_differences 40 = .ok (.iconst (-1), 1) := by decide +kernel
theorem dX12_differences_41 : decode cX12_differences 41 = .ok (.if_icmp .eq 9, 3) := by decide +kernel
theorem dX12_differences_44 : decode cX12_differences 44 = .ok (.iload 6, 2) := by decide +kernel
theorem dX12_differences_46 : decode cX12_differences 46 = .ok (.iconst (-1), 1) := by decide +kernel
theorem dX12_differences_47 : decode cX12_differences 47 = .ok (.if_icmp .ne 7, 3) := by decide +kernel
theorem dX12_differences_50 : decode cX12_differences 50 = .ok (.iconst 0, 1) := by decide +kernel
theorem dX12_differences_51 : decode cX12_differences 51 = .ok (.goto 10, 3) := by decide +kernel
theorem dX12_differences_54 : decode cX12_differences 54 = .ok (.iload 5, 2) := by decide +kernel
theorem dX12_differences_56 : decode cX12_differences 56 = .ok (.iload 6, 2) := by decide +kernel
theorem dX12_differences_58 : decode cX12_differences 58 = .ok (.invokestatic 260, 3) := by decide +kernel
theorem dX12_differences_61 : decode cX12_differences 61 = .ok (.iadd, 1) := by decide +kernel
theorem dX12_differences_62 : decode cX12_differences 62 = .ok (.istore_n 3, 1) := by decide +kernel
theorem dX12_differences_63 : decode cX12_differences 63 = .ok (.iinc 4 1, 3) := by decide +kernel
theorem dX12_differences_66 : decode cX12_differences 66 = .ok (.goto (-61), 3) := by decide +kernel
theorem dX12_differences_69 : decode cX12_differences 69 = .ok (.iload_n 3, 1) := by decide +kernel
theorem dX12_differences_70 : decode cX12_differences 70 = .ok (.ireturn, 1) := by decide +kernel
theorem dX12_lays_0 : decode cX12_lays 0 = .ok (.iconst 0, 1) := by decide +kernel
theorem dX12_lays_1 : decode cX12_lays 1 = .ok (.istore_n 1, 1) := by decide +kernel
theorem dX12_lays_2 : decode cX12_lays 2 = .ok (.iload_n 1, 1) := by decide +kernel
theorem dX12_lays_3 : decode cX12_lays 3 = .ok (.sipush 256, 3) := by decide +kernel
theorem dX12_lays_6 : decode cX12_lays 6 = .ok (.if_icmp .ge 26, 3) := by decide +kernel
theorem dX12_lays_9 : decode cX12_lays 9 = .ok (.aload_n 0, 1) := by decide +kernel
theorem dX12_lays_10 : decode cX12_lays 10 = .ok (.getfield 85, 3) := by decide +kernel
theorem dX12_lays_13 : decode cX12_lays 13 = .ok (.iload_n 1, 1) := by decide +kernel
theorem dX12_lays_14 : decode cX12_lays 14 = .ok (.iload_n 1, 1) := by decide +kernel
theorem dX12_lays_15 : decode cX12_lays 15 = .ok (.ifCond .ne 7, 3) := by decide +kernel
theorem dX12_lays_18 : decode cX12_lays 18 = .ok (.iconst 0, 1) := by decide +kernel
theorem dX12_lays_19 : decode cX12_lays 19 = .ok (.goto 6, 3) := by decide +kernel
theorem dX12_lays_22 : decode cX12_lays 22 = .ok (.ldc_w 278, 3) := by decide +kernel
theorem dX12_lays_25 : decode cX12_lays 25 = .ok (.iastore, 1) := by decide +kernel
theorem dX12_lays_26 : decode cX12_lays 26 = .ok (.iinc 1 1, 3) := by decide +kernel
theorem dX12_lays_29 : decode cX12_lays 29 = .ok (.goto (-27), 3) := by decide +kernel
theorem dX12_lays_32 : decode cX12_lays 32 = .ok (.iconst 0, 1) := by decide +kernel
theorem dX12_lays_33 : decode cX12_lays 33 = .ok (.istore_n 1, 1) := by decide +kernel
theorem dX12_lays_34 : decode cX12_lays 34 = .ok (.iload_n 1, 1) := by decide +kernel
theorem dX12_lays_35 : decode cX12_lays 35 = .ok (.aload_n 0, 1) := by decide +kernel
theorem dX12_lays_36 : decode cX12_lays 36 = .ok (.getfield 167, 3) := by decide +kernel
theorem dX12_lays_39 : decode cX12_lays 39 = .ok (.if_icmp .ge 157, 3) := by decide +kernel
theorem dX12_lays_42 : decode cX12_lays 42 = .ok (.iconst 1, 1) := by decide +kernel
theorem dX12_lays_43 : decode cX12_lays 43 = .ok (.aload_n 0, 1) := by decide +kernel
theorem dX12_lays_44 : decode cX12_lays 44 = .ok (.getfield 253, 3) := by decide +kernel
theorem dX12_lays_47 : decode cX12_lays 47 = .ok (.ishl, 1) := by decide +kernel
theorem dX12_lays_48 : decode cX12_lays 48 = .ok (.iconst 1, 1) := by decide +kernel
theorem dX12_lays_49 : decode cX12_lays 49 = .ok (.isub, 1) := by decide +kernel
theorem dX12_lays_50 : decode cX12_lays 50 = .ok (.istore_n 2, 1) := by decide +kernel
theorem dX12_lays_51 : decode cX12_lays 51 = .ok (.iload_n 2, 1) := by decide +kernel
theorem dX12_lays_52 : decode cX12_lays 52 = .ok (.ifCond .lt 138, 3) := by decide +kernel
theorem dX12_lays_55 : decode cX12_lays 55 = .ok (.iconst 0, 1) := by decide +kernel
theorem dX12_lays_56 : decode cX12_lays 56 = .ok (.istore_n 3, 1) := by decide +kernel
theorem dX12_lays_57 : decode cX12_lays 57 = .ok (.iload_n 3, 1) := by decide +kernel
theorem dX12_lays_58 : decode cX12_lays 58 = .ok (.aload_n 0, 1) := by decide +kernel
theorem dX12_lays_59 : decode cX12_lays 59 = .ok (.getfield 253, 3) := by decide +kernel
theorem dX12_lays_62 : decode cX12_lays 62 = .ok (.if_icmp .ge 122, 3) := by decide +kernel
theorem dX12_lays_65 : decode cX12_lays 65 = .ok (.aload_n 0, 1) := by decide +kernel
theorem dX12_lays_66 : decode cX12_lays 66 = .ok (.getfield 85, 3) := by decide +kernel
theorem dX12_lays_69 : decode cX12_lays 69 = .ok (.iload_n 2, 1) := by decide +kernel
theorem dX12_lays_70 : decode cX12_lays 70 = .ok (.iaload, 1) := by decide +kernel
theorem dX12_lays_71 : decode cX12_lays 71 = .ok (.ldc_w 278, 3) := by decide +kernel
theorem dX12_lays_74 : decode cX12_lays 74 = .ok (.if_icmp .ge 110, 3) := by decide +kernel
theorem dX12_lays_77 : decode cX12_lays 77 = .ok (.iload_n 2, 1) := by decide +kernel
theorem dX12_lays_78 : decode cX12_lays 78 = .ok (.iload_n 3, 1) := by decide +kernel
theorem dX12_lays_79 : decode cX12_lays 79 = .ok (.ishr, 1) := by decide +kernel
theorem dX12_lays_80 : decode cX12_lays 80 = .ok (.iconst 1, 1) := by decide +kernel
theorem dX12_lays_81 : decode cX12_lays 81 = .ok (.iand, 1) := by decide +kernel
theorem dX12_lays_82 : decode cX12_lays 82 = .ok (.ifCond .ne 96, 3) := by decide +kernel
theorem dX12_lays_85 : decode cX12_lays 85 = .ok (.aload_n 0, 1) := by decide +kernel
theorem dX12_lays_86 : decode cX12_lays 86 = .ok (.getfield 88, 3) := by decide +kernel
theorem dX12_lays_89 : decode cX12_lays 89 = .ok (.iload_n 3, 1) := by decide +kernel
theorem dX12_lays_90 : decode cX12_lays 90 = .ok (.iaload, 1) := by decide +kernel
theorem dX12_lays_91 : decode cX12_lays 91 = .ok (.iload_n 1, 1) := by decide +kernel
theorem dX12_lays_92 : decode cX12_lays 92 = .ok (.if_icmp .eq 22, 3) := by decide +kernel
theorem dX12_lays_95 : decode cX12_lays 95 = .ok (.aload_n 0, 1) := by decide +kernel
theorem dX12_lays_96 : decode cX12_lays 96 = .ok (.getfield 88, 3) := by decide +kernel
theorem dX12_lays_99 : decode cX12_lays 99 = .ok (.iload_n 3, 1) := by decide +kernel
theorem dX12_lays_100 : decode cX12_lays 100 = .ok (.iaload, 1) := by decide +kernel
theorem dX12_lays_101 : decode cX12_lays 101 = .ok (.bipush 21, 2) := by decide +kernel
theorem dX12_lays_103 : decode cX12_lays 103 = .ok (.if_icmp .ne 75, 3) := by decide +kernel
theorem dX12_lays_106 : decode cX12_lays 106 = .ok (.aload_n 0, 1) := by decide +kernel
theorem dX12_lays_107 : decode cX12_lays 107 = .ok (.iload_n 1, 1) := by decide +kernel
theorem dX12_lays_108 : decode cX12_lays 108 = .ok (.invokevirtual 279, 3) := by decide +kernel
theorem dX12_lays_111 : decode cX12_lays 111 = .ok (.ifCond .ne 67, 3) := by decide +kernel
theorem dX12_lays_114 : decode cX12_lays 114 = .ok (.aload_n 0, 1) := by decide +kernel
theorem dX12_lays_115 : decode cX12_lays 115 = .ok (.iload_n 3, 1) := by decide +kernel
theorem dX12_lays_116 : decode cX12_lays 116 = .ok (.iload_n 1, 1) := by decide +kernel
theorem dX12_lays_117 : decode cX12_lays 117 = .ok (.invokevirtual 263, 3) := by decide +kernel
theorem dX12_lays_120 : decode cX12_lays 120 = .ok (.ifCond .eq 58, 3) := by decide +kernel
theorem dX12_lays_123 : decode cX12_lays 123 = .ok (.aload_n 0, 1) := by decide +kernel
theorem dX12_lays_124 : decode cX12_lays 124 = .ok (.getfield 85, 3) := by decide +kernel
theorem dX12_lays_127 : decode cX12_lays 127 = .ok (.iload_n 2, 1) := by decide +kernel
theorem dX12_lays_128 : decode cX12_lays 128 = .ok (.iaload, 1) := by decide +kernel
theorem dX12_lays_129 : decode cX12_lays 129 = .ok (.aload_n 0, 1) := by decide +kernel
theorem dX12_lays_130 : decode cX12_lays 130 = .ok (.iload_n 3, 1) := by decide +kernel
theorem dX12_lays_131 : decode cX12_lays 131 = .ok (.iload_n 1, 1) := by decide +kernel
theorem dX12_lays_132 : decode cX12_lays 132 = .ok (.invokevirtual 282, 3) := by decide +kernel
theorem dX12_lays_135 : decode cX12_lays 135 = .ok (.iadd, 1) := by decide +kernel
theorem dX12_lays_136 : decode cX12_lays 136 = .ok (.istore 4, 2) := by decide +kernel
theorem dX12_lays_138 : decode cX12_lays 138 = .ok (.aload_n 0, 1) := by decide +kernel
theorem dX12_lays_139 : decode cX12_lays 139 = .ok (.getfield 85, 3) := by decide +kernel
theorem dX12_lays_142 : decode cX12_lays 142 = .ok (.iload_n 2, 1) := by decide +kernel
theorem dX12_lays_143 : decode cX12_lays 143 = .ok (.iconst 1, 1) := by decide +kernel
theorem dX12_lays_144 : decode cX12_lays 144 = .ok (.iload_n 3, 1) := by decide +kernel
theorem dX12_lays_145 : decode cX12_lays 145 = .ok (.ishl, 1) := by decide +kernel
theorem dX12_lays_146 : decode cX12_lays 146 = .ok (.ior, 1) := by decide +kernel
theorem dX12_lays_147 : decode cX12_lays 147 = .ok (.iload 4, 2) := by decide +kernel
theorem dX12_lays_149 : decode cX12_lays 149 = .ok (.aload_n 0, 1) := by decide +kernel
theorem dX12_lays_150 : decode cX12_lays 150 = .ok (.getfield 85, 3) := by decide +kernel
theorem dX12_lays_153 : decode cX12_lays 153 = .ok (.iload_n 2, 1) := by decide +kernel
theorem dX12_lays_154 : decode cX12_lays 154 = .ok (.iconst 1, 1) := by decide +kernel
theorem dX12_lays_155 : decode cX12_lays 155 = .ok (.iload_n 3, 1) := by decide +kernel
theorem dX12_lays_156 : decode cX12_lays 156 = .ok (.ishl, 1) := by decide +kernel
theorem dX12_lays_157 : decode cX12_lays 157 = .ok (.ior, 1) := by decide +kernel
theorem dX12_lays_158 : decode cX12_lays 158 = .ok (.iaload, 1) := by decide +kernel
theorem dX12_lays_159 : decode cX12_lays 159 = .ok (.if_icmp .ge 8, 3) := by decide +kernel
theorem dX12_lays_162 : decode cX12_lays 162 = .ok (.iload 4, 2) := by decide +kernel
theorem dX12_lays_164 : decode cX12_lays 164 = .ok (.goto 13, 3) := by decide +kernel
theorem dX12_lays_167 : decode cX12_lays 167 = .ok (.aload_n 0, 1) := by decide +kernel
theorem dX12_lays_168 : decode cX12_lays 168 = .ok (.getfield 85, 3) := by decide +kernel
theorem dX12_lays_171 : decode cX12_lays 171 = .ok (.iload_n 2, 1) := by decide +kernel
theorem dX12_lays_172 : decode cX12_lays 172 = .ok (.iconst 1, 1) := by decide +kernel
theorem dX12_lays_173 : decode cX12_lays 173 = .ok (.iload_n 3, 1) := by decide +kernel
theorem dX12_lays_174 : decode cX12_lays 174 = .ok (.ishl, 1) := by decide +kernel
theorem dX12_lays_175 : decode cX12_lays 175 = .ok (.ior, 1) := by decide +kernel
theorem dX12_lays_176 : decode cX12_lays 176 = .ok (.iaload, 1) := by decide +kernel
theorem dX12_lays_177 : decode cX12_lays 177 = .ok (.iastore, 1) := by decide +kernel
theorem dX12_lays_178 : decode cX12_lays 178 = .ok (.iinc 3 1, 3) := by decide +kernel
theorem dX12_lays_181 : decode cX12_lays 181 = .ok (.goto (-124), 3) := by decide +kernel
theorem dX12_lays_184 : decode cX12_lays 184 = .ok (.iinc 2 (-1), 3) := by decide +kernel
theorem dX12_lays_187 : decode cX12_lays 187 = .ok (.goto (-136), 3) := by decide +kernel
theorem dX12_lays_190 : decode cX12_lays 190 = .ok (.iinc 1 1, 3) := by decide +kernel
theorem dX12_lays_193 : decode cX12_lays 193 = .ok (.goto (-159), 3) := by decide +kernel
theorem dX12_lays_196 : decode cX12_lays 196 = .ok (.aload_n 0, 1) := by decide +kernel
theorem dX12_lays_197 : decode cX12_lays 197 = .ok (.iconst 0, 1) := by decide +kernel
theorem dX12_lays_198 : decode cX12_lays 198 = .ok (.putfield 285, 3) := by decide +kernel
theorem dX12_lays_201 : decode cX12_lays 201 = .ok (.aload_n 0, 1) := by decide +kernel
theorem dX12_lays_202 : decode cX12_lays 202 = .ok (.iconst 0, 1) := by decide +kernel
theorem dX12_lays_203 : decode cX12_lays 203 = .ok (.putfield 288, 3) := by decide +kernel
theorem dX12_lays_206 : decode cX12_lays 206 = .ok (.iconst 1, 1) := by decide +kernel
theorem dX12_lays_207 : decode cX12_lays 207 = .ok (.istore_n 1, 1) := by decide +kernel
theorem dX12_lays_208 : decode cX12_lays 208 = .ok (.iload_n 1, 1) := by decide +kernel
theorem dX12_lays_209 : decode cX12_lays 209 = .ok (.iconst 1, 1) := by decide +kernel
theorem dX12_lays_210 : decode cX12_lays 210 = .ok (.aload_n 0, 1) := by decide +kernel
theorem dX12_lays_211 : decode cX12_lays 211 = .ok (.getfield 253, 3) := by decide +kernel
theorem dX12_lays_214 : decode cX12_lays 214 = .ok (.ishl, 1) := by decide +kernel
theorem dX12_lays_215 : decode cX12_lays 215 = .ok (.if_icmp .ge 74, 3) := by decide +kernel
theorem dX12_lays_218 : decode cX12_lays 218 = .ok (.aload_n 0, 1) := by decide +kernel
theorem dX12_lays_219 : decode cX12_lays 219 = .ok (.getfield 85, 3) := by decide +kernel
theorem dX12_lays_222 : decode cX12_lays 222 = .ok (.iload_n 1, 1) := by decide +kernel
theorem dX12_lays_223 : decode cX12_lays 223 = .ok (.iaload, 1) := by decide +kernel
theorem dX12_lays_224 : decode cX12_lays 224 = .ok (.ldc_w 278, 3) := by decide +kernel
theorem dX12_lays_227 : decode cX12_lays 227 = .ok (.if_icmp .ge 56, 3) := by decide +kernel
theorem dX12_lays_230 : decode cX12_lays 230 = .ok (.iload_n 1, 1) := by decide +kernel
theorem dX12_lays_231 : decode cX12_lays 231 = .ok (.invokestatic 272, 3) := by decide +kernel
theorem dX12_lays_234 : decode cX12_lays 234 = .ok (.aload_n 0, 1) := by decide +kernel
theorem dX12_lays_235 : decode cX12_lays 235 = .ok (.getfield 285, 3) := by decide +kernel
theorem dX12_lays_238 : decode cX12_lays 238 = .ok (.if_icmp .gt 27, 3) := by decide +kernel
theorem dX12_lays_241 : decode cX12_lays 241 = .ok (.iload_n 1, 1) := by decide +kernel
theorem dX12_lays_242 : decode cX12_lays 242 = .ok (.invokestatic 272, 3) := by decide +kernel
theorem dX12_lays_245 : decode cX12_lays 245 = .ok (.aload_n 0, 1) := by decide +kernel
theorem dX12_lays_246 : decode cX12_lays 246 = .ok (.getfield 285, 3) := by decide +kernel
theorem dX12_lays_249 : decode cX12_lays 249 = .ok (.if_icmp .ne 34, 3) := by decide +kernel
theorem dX12_lays_252 : decode cX12_lays 252 = .ok (.aload_n 0, 1) := by decide +kernel
theorem dX12_lays_253 : decode cX12_lays 253 = .ok (.getfield 85, 3) := by decide +kernel
theorem dX12_lays_256 : decode cX12_lays 256 = .ok (.iload_n 1, 1) := by decide +kernel
theorem dX12_lays_257 : decode cX12_lays 257 = .ok (.iaload, 1) := by decide +kernel
theorem dX12_lays_258 : decode cX12_lays 258 = .ok (.aload_n 0, 1) := by decide +kernel
theorem dX12_lays_259 : decode cX12_lays 259 = .ok (.getfield 288, 3) := by decide +kernel
theorem dX12_lays_262 : decode cX12_lays 262 = .ok (.if_icmp .ge 21, 3) := by decide +kernel
theorem dX12_lays_265 : decode cX12_lays 265 = .ok (.aload_n 0, 1) := by decide +kernel
theorem dX12_lays_266 : decode cX12_lays 266 = .ok (.iload_n 1, 1) := by decide +kernel
theorem dX12_lays_267 : decode cX12_lays 267 = .ok (.invokestatic 272, 3) := by decide +kernel
theorem dX12_lays_270 : decode cX12_lays 270 = .ok (.putfield 285, 3) := by decide +kernel
theorem dX12_lays_273 : decode cX12_lays 273 = .ok (.aload_n 0, 1) := by decide +kernel
theorem dX12_lays_274 : decode cX12_lays 274 = .ok (.aload_n 0, 1) := by decide +kernel
theorem dX12_lays_275 : decode cX12_lays 275 = .ok (.getfield 85, 3) := by decide +kernel
theorem dX12_lays_278 : decode cX12_lays 278 = .ok (.iload_n 1, 1) := by decide +kernel
theorem dX12_lays_279 : decode cX12_lays 279 = .ok (.iaload, 1) := by decide +kernel
theorem dX12_lays_280 : decode cX12_lays 280 = .ok (.putfield 288, 3) := by decide +kernel
theorem dX12_lays_283 : decode cX12_lays 283 = .ok (.iinc 1 1, 3) := by decide +kernel
theorem dX12_lays_286 : decode cX12_lays 286 = .ok (.goto (-78), 3) := by decide +kernel
theorem dX12_lays_289 : decode cX12_lays 289 = .ok (.return_, 1) := by decide +kernel
theorem dX12_isFixed_0 : decode cX12_isFixed 0 = .ok (.iconst 0, 1) := by decide +kernel
theorem dX12_isFixed_1 : decode cX12_isFixed 1 = .ok (.istore_n 2, 1) := by decide +kernel
theorem dX12_isFixed_2 : decode cX12_isFixed 2 = .ok (.iconst 0, 1) := by decide +kernel
theorem dX12_isFixed_3 : decode cX12_isFixed 3 = .ok (.istore_n 3, 1) := by decide +kernel
theorem dX12_isFixed_4 : decode cX12_isFixed 4 = .ok (.iload_n 3, 1) := by decide +kernel
theorem dX12_isFixed_5 : decode cX12_isFixed 5 = .ok (.aload_n 0, 1) := by decide +kernel
theorem dX12_isFixed_6 : decode cX12_isFixed 6 = .ok (.getfield 253, 3) := by decide +kernel
theorem dX12_isFixed_9 : decode cX12_isFixed 9 = .ok (.if_icmp .ge 29, 3) := by decide +kernel
theorem dX12_isFixed_12 : decode cX12_isFixed 12 = .ok (.iload_n 2, 1) := by decide +kernel
theorem dX12_isFixed_13 : decode cX12_isFixed 13 = .ok (.ifCond .ne 13, 3) := by decide +kernel
theorem dX12_isFixed_16 : decode cX12_isFixed 16 = .ok (.aload_n 0, 1) := by decide +kernel
theorem dX12_isFixed_17 : decode cX12_isFixed 17 = .ok (.getfield 88, 3) := by decide +kernel
theorem dX12_isFixed_20 : decode cX12_isFixed 20 = .ok (.iload_n 3, 1) := by decide +kernel
theorem dX12_isFixed_21 : decode cX12_isFixed 21 = .ok (.iaload, 1) := by decide +kernel
theorem dX12_isFixed_22 : decode cX12_isFixed 22 = .ok (.iload_n 1, 1) := by decide +kernel
theorem dX12_isFixed_23 : decode cX12_isFixed 23 = .ok (.if_icmp .ne 7, 3) := by decide +kernel
theorem dX12_isFixed_26 : decode cX12_isFixed 26 = .ok (.iconst 1, 1) := by decide +kernel
theorem dX12_isFixed_27 : decode cX12_isFixed 27 = .ok (.goto 4, 3) := by decide +kernel
theorem dX12_isFixed_30 : decode cX12_isFixed 30 = .ok (.iconst 0, 1) := by decide +kernel
theorem dX12_isFixed_31 : decode cX12_isFixed 31 = .ok (.istore_n 2, 1) := by decide +kernel
theorem dX12_isFixed_32 : decode cX12_isFixed 32 = .ok (.iinc 3 1, 3) := by decide +kernel
theorem dX12_isFixed_35 : decode cX12_isFixed 35 = .ok (.goto (-31), 3) := by decide +kernel
theorem dX12_isFixed_38 : decode cX12_isFixed 38 = .ok (.iload_n 2, 1) := by decide +kernel
theorem dX12_isFixed_39 : decode cX12_isFixed 39 = .ok (.ireturn, 1) := by decide +kernel
theorem dX12_frees_0 : decode cX12_frees 0 = .ok (.iconst 0, 1) := by decide +kernel
theorem dX12_frees_1 : decode cX12_frees 1 = .ok (.istore_n 1, 1) := by decide +kernel
theorem dX12_frees_2 : decode cX12_frees 2 = .ok (.iload_n 1, 1) := by decide +kernel
theorem dX12_frees_3 : decode cX12_frees 3 = .ok (.bipush 8, 2) := by decide +kernel
theorem dX12_frees_5 : decode cX12_frees 5 = .ok (.if_icmp .ge 17, 3) := by decide +kernel
theorem dX12_frees_8 : decode cX12_frees 8 = .ok (.aload_n 0, 1) := by decide +kernel
theorem dX12_frees_9 : decode cX12_frees 9 = .ok (.getfield 88, 3) := by decide +kernel
theorem dX12_frees_12 : decode cX12_frees 12 = .ok (.iload_n 1, 1) := by decide +kernel
theorem dX12_frees_13 : decode cX12_frees 13 = .ok (.bipush 21, 2) := by decide +kernel
theorem dX12_frees_15 : decode cX12_frees 15 = .ok (.iastore, 1) := by decide +kernel
theorem dX12_frees_16 : decode cX12_frees 16 = .ok (.iinc 1 1, 3) := by decide +kernel
theorem dX12_frees_19 : decode cX12_frees 19 = .ok (.goto (-17), 3) := by decide +kernel
theorem dX12_frees_22 : decode cX12_frees 22 = .ok (.return_, 1) := by decide +kernel
theorem dX12_laying_0 : decode cX12_laying 0 = .ok (.iload_n 1, 1) := by decide +kernel
theorem dX12_laying_1 : decode cX12_laying 1 = .ok (.i2l, 1) := by decide +kernel
theorem dX12_laying_2 : decode cX12_laying 2 = .ok (.lconst 0, 1) := by decide +kernel
theorem dX12_laying_3 : decode cX12_laying 3 = .ok (.lconst 1, 1) := by decide +kernel
theorem dX12_laying_4 : decode cX12_laying 4 = .ok (.invokestatic 139, 3) := by decide +kernel
theorem dX12_laying_7 : decode cX12_laying 7 = .ok (.ifCond .ne 6, 3) := by decide +kernel
theorem dX12_laying_10 : decode cX12_laying 10 = .ok (.bipush (-2), 2) := by decide +kernel
theorem dX12_laying_12 : decode cX12_laying 12 = .ok (.ireturn, 1) := by decide +kernel
theorem dX12_laying_13 : decode cX12_laying 13 = .ok (.aload_n 0, 1) := by decide +kernel
theorem dX12_laying_14 : decode cX12_laying 14 = .ok (.invokevirtual 291, 3) := by decide +kernel
theorem dX12_laying_17 : decode cX12_laying 17 = .ok (.aload_n 0, 1) := by decide +kernel
theorem dX12_laying_18 : decode cX12_laying 18 = .ok (.invokevirtual 294, 3) := by decide +kernel
theorem dX12_laying_21 : decode cX12_laying 21 = .ok (.iload_n 1, 1) := by decide +kernel
theorem dX12_laying_22 : decode cX12_laying 22 = .ok (.ifCond .ne 10, 3) := by decide +kernel
theorem dX12_laying_25 : decode cX12_laying 25 = .ok (.aload_n 0, 1) := by decide +kernel
theorem dX12_laying_26 : decode cX12_laying 26 = .ok (.getfield 285, 3) := by decide +kernel
theorem dX12_laying_29 : decode cX12_laying 29 = .ok (.goto 7, 3) := by decide +kernel
theorem dX12_laying_32 : decode cX12_laying 32 = .ok (.aload_n 0, 1) := by decide +kernel
theorem dX12_laying_33 : decode cX12_laying 33 = .ok (.getfield 288, 3) := by decide +kernel
theorem dX12_laying_36 : decode cX12_laying 36 = .ok (.ireturn, 1) := by decide +kernel
theorem dX12_laid_0 : decode cX12_laid 0 = .ok (.aload_n 0, 1) := by decide +kernel
theorem dX12_laid_1 : decode cX12_laid 1 = .ok (.iload_n 1, 1) := by decide +kernel
theorem dX12_laid_2 : decode cX12_laid 2 = .ok (.invokevirtual 266, 3) := by decide +kernel
theorem dX12_laid_5 : decode cX12_laid 5 = .ok (.ifCond .ne 6, 3) := by decide +kernel
theorem dX12_laid_8 : decode cX12_laid 8 = .ok (.bipush (-2), 2) := by decide +kernel
theorem dX12_laid_10 : decode cX12_laid 10 = .ok (.ireturn, 1) := by decide +kernel
theorem dX12_laid_11 : decode cX12_laid 11 = .ok (.aload_n 0, 1) := by decide +kernel
theorem dX12_laid_12 : decode cX12_laid 12 = .ok (.invokevirtual 291, 3) := by decide +kernel
theorem dX12_laid_15 : decode cX12_laid 15 = .ok (.aload_n 0, 1) := by decide +kernel
theorem dX12_laid_16 : decode cX12_laid 16 = .ok (.invokevirtual 294, 3) := by decide +kernel
theorem dX12_laid_19 : decode cX12_laid 19 = .ok (.aload_n 0, 1) := by decide +kernel
theorem dX12_laid_20 : decode cX12_laid 20 = .ok (.getfield 285, 3) := by decide +kernel
theorem dX12_laid_23 : decode cX12_laid 23 = .ok (.istore_n 2, 1) := by decide +kernel
theorem dX12_laid_24 : decode cX12_laid 24 = .ok (.aload_n 0, 1) := by decide +kernel
theorem dX12_laid_25 : decode cX12_laid 25 = .ok (.getfield 288, 3) := by decide +kernel
theorem dX12_laid_28 : decode cX12_laid 28 = .ok (.istore_n 3, 1) := by decide +kernel
theorem dX12_laid_29 : decode cX12_laid 29 = .ok (.iconst 0, 1) := by decide +kernel
theorem dX12_laid_30 : decode cX12_laid 30 = .ok (.istore 4, 2) := by decide +kernel
theorem dX12_laid_32 : decode cX12_laid 32 = .ok (.iload 4, 2) := by decide +kernel
theorem dX12_laid_34 : decode cX12_laid 34 = .ok (.iload_n 1, 1) := by decide +kernel
theorem dX12_laid_35 : decode cX12_laid 35 = .ok (.if_icmp .gt 124, 3) := by decide +kernel
theorem dX12_laid_38 : decode cX12_laid 38 = .ok (.iconst 1, 1) := by decide +kernel
theorem dX12_laid_39 : decode cX12_laid 39 = .ok (.istore 5, 2) := by decide +kernel
theorem dX12_laid_41 : decode cX12_laid 41 = .ok (.iconst 0, 1) := by decide +kernel
theorem dX12_laid_42 : decode cX12_laid 42 = .ok (.istore 6, 2) := by decide +kernel
theorem dX12_laid_44 : decode cX12_laid 44 = .ok (.iload 6, 2) := by decide +kernel
theorem dX12_laid_46 : decode cX12_laid 46 = .ok (.bipush 20, 2) := by decide +kernel
theorem dX12_laid_48 : decode cX12_laid 48 = .ok (.if_icmp .gt 105, 3) := by decide +kernel
theorem dX12_laid_51 : decode cX12_laid 51 = .ok (.iload 5, 2) := by decide +kernel
theorem dX12_laid_53 : decode cX12_laid 53 = .ok (.ifCond .eq 100, 3) := by decide +kernel
theorem dX12_laid_56 : decode cX12_laid 56 = .ok (.iload 6, 2) := by decide +kernel
theorem dX12_laid_58 : decode cX12_laid 58 = .ok (.bipush 20, 2) := by decide +kernel
theorem dX12_laid_60 : decode cX12_laid 60 = .ok (.if_icmp .eq 32, 3) := by decide +kernel
theorem dX12_laid_63 : decode cX12_laid 63 = .ok (.aload_n 0, 1) := by decide +kernel
theorem dX12_laid_64 : decode cX12_laid 64 = .ok (.iload 6, 2) := by decide +kernel
theorem dX12_laid_66 : decode cX12_laid 66 = .ok (.invokevirtual 190, 3) := by decide +kernel
theorem dX12_laid_69 : decode cX12_laid 69 = .ok (.ifCond .eq 78, 3) := by decide +kernel
theorem dX12_laid_72 : decode cX12_laid 72 = .ok (.aload_n 0, 1) := by decide +kernel
theorem dX12_laid_73 : decode cX12_laid 73 = .ok (.iload 6, 2) := by decide +kernel
theorem dX12_laid_75 : decode cX12_laid 75 = .ok (.invokevirtual 279, 3) := by decide +kernel
theorem dX12_laid_78 : decode cX12_laid 78 = .ok (.ifCond .ne 69, 3) := by decide +kernel
theorem dX12_laid_81 : decode cX12_laid 81 = .ok (.aload_n 0, 1) := by decide +kernel
theorem dX12_laid_82 : decode cX12_laid 82 = .ok (.iload 4, 2) := by decide +kernel
theorem dX12_laid_84 : decode cX12_laid 84 = .ok (.iload 6, 2) := by decide +kernel
theorem dX12_laid_86 : decode cX12_laid 86 = .ok (.invokevirtual 263, 3) := by decide +kernel
theorem dX12_laid_89 : decode cX12_laid 89 = .ok (.ifCond .eq 58, 3) := by decide +kernel
theorem dX12_laid_92 : decode cX12_laid 92 = .ok (.aload_n 0, 1) := by decide +kernel
theorem dX12_laid_93 : decode cX12_laid 93 = .ok (.getfield 88, 3) := by decide +kernel
theorem dX12_laid_96 : decode cX12_laid 96 = .ok (.iload 4, 2) := by decide +kernel
theorem dX12_laid_98 : decode cX12_laid 98 = .ok (.iload 6, 2) := by decide +kernel
theorem dX12_laid_100 : decode cX12_laid 100 = .ok (.iastore, 1) := by decide +kernel
theorem dX12_laid_101 : decode cX12_laid 101 = .ok (.aload_n 0, 1) := by decide +kernel
theorem dX12_laid_102 : decode cX12_laid 102 = .ok (.invokevirtual 294, 3) := by decide +kernel
theorem dX12_laid_105 : decode cX12_laid 105 = .ok (.aload_n 0, 1) := by decide +kernel
theorem dX12_laid_106 : decode cX12_laid 106 = .ok (.getfield 285, 3) := by decide +kernel
theorem dX12_laid_109 : decode cX12_laid 109 = .ok (.iload_n 2, 1) := by decide +kernel
theorem dX12_laid_110 : decode cX12_laid 110 = .ok (.if_icmp .ne 11, 3) := by decide +kernel
theorem dX12_laid_113 : decode cX12_laid 113 = .ok (.aload_n 0, 1) := by decide +kernel
theorem dX12_laid_114 : decode cX12_laid 114 = .ok (.getfield 288, 3) := by decide +kernel
theorem dX12_laid_117 : decode cX12_laid 117 = .ok (.iload_n 3, 1) := by decide +kernel
theorem dX12_laid_118 : decode cX12_laid 118 = .ok (.if_icmp .eq 7, 3) := by decide +kernel
theorem dX12_laid_121 : decode cX12_laid 121 = .ok (.iconst 1, 1) := by decide +kernel
theorem dX12_laid_122 : decode cX12_laid 122 = .ok (.goto 4, 3) := by decide +kernel
theorem dX12_laid_125 : decode cX12_laid 125 = .ok (.iconst 0, 1) := by decide +kernel
theorem dX12_laid_126 : decode cX12_laid 126 = .ok (.istore 5, 2) := by decide +kernel
theorem dX12_laid_128 : decode cX12_laid 128 = .ok (.aload_n 0, 1) := by decide +kernel
theorem dX12_laid_129 : decode cX12_laid 129 = .ok (.getfield 88, 3) := by decide +kernel
theorem dX12_laid_132 : decode cX12_laid 132 = .ok (.iload 4, 2) := by decide +kernel
theorem dX12_laid_134 : decode cX12_laid 134 = .ok (.iload 5, 2) := by decide +kernel
theorem dX12_laid_136 : decode cX12_laid 136 = .ok (.ifCond .eq 8, 3) := by decide +kernel
theorem dX12_laid_139 : decode cX12_laid 139 = .ok (.bipush 21, 2) := by decide +kernel
theorem dX12_laid_141 : decode cX12_laid 141 = .ok (.goto 5, 3) := by decide +kernel
theorem dX12_laid_144 : decode cX12_laid 144 = .ok (.iload 6, 2) := by decide +kernel
theorem dX12_laid_146 : decode cX12_laid 146 = .ok (.iastore, 1) := by decide +kernel
theorem dX12_laid_147 : decode cX12_laid 147 = .ok (.iinc 6 1, 3) := by decide +kernel
theorem dX12_laid_150 : decode cX12_laid 150 = .ok (.goto (-106), 3) := by decide +kernel
theorem dX12_laid_153 : decode cX12_laid 153 = .ok (.iinc 4 1, 3) := by decide +kernel
theorem dX12_laid_156 : decode cX12_laid 156 = .ok (.goto (-124), 3) := by decide +kernel
theorem dX12_laid_159 : decode cX12_laid 159 = .ok (.aload_n 0, 1) := by decide +kernel
theorem dX12_laid_160 : decode cX12_laid 160 = .ok (.getfield 88, 3) := by decide +kernel
theorem dX12_laid_163 : decode cX12_laid 163 = .ok (.iload_n 1, 1) := by decide +kernel
theorem dX12_laid_164 : decode cX12_laid 164 = .ok (.iaload, 1) := by decide +kernel
theorem dX12_laid_165 : decode cX12_laid 165 = .ok (.bipush 20, 2) := by decide +kernel
theorem dX12_laid_167 : decode cX12_laid 167 = .ok (.if_icmp .ne 7, 3) := by decide +kernel
theorem dX12_laid_170 : decode cX12_laid 170 = .ok (.iconst (-1), 1) := by decide +kernel
theorem dX12_laid_171 : decode cX12_laid 171 = .ok (.goto 9, 3) := by decide +kernel
theorem dX12_laid_174 : decode cX12_laid 174 = .ok (.aload_n 0, 1) := by decide +kernel
theorem dX12_laid_175 : decode cX12_laid 175 = .ok (.getfield 88, 3) := by decide +kernel
theorem dX12_laid_178 : decode cX12_laid 178 = .ok (.iload_n 1, 1) := by decide +kernel
theorem dX12_laid_179 : decode cX12_laid 179 = .ok (.iaload, 1) := by decide +kernel
theorem dX12_laid_180 : decode cX12_laid 180 = .ok (.ireturn, 1) := by decide +kernel
theorem dX12_tune_0 : decode cX12_tune 0 = .ok (.iload_n 1, 1) := by decide +kernel
theorem dX12_tune_1 : decode cX12_tune 1 = .ok (.i2l, 1) := by decide +kernel
theorem dX12_tune_2 : decode cX12_tune 2 = .ok (.lconst 0, 1) := by decide +kernel
theorem dX12_tune_3 : decode cX12_tune 3 = .ok (.lconst 1, 1) := by decide +kernel
theorem dX12_tune_4 : decode cX12_tune 4 = .ok (.invokestatic 139, 3) := by decide +kernel
theorem dX12_tune_7 : decode cX12_tune 7 = .ok (.ifCond .eq 25, 3) := by decide +kernel
theorem dX12_tune_10 : decode cX12_tune 10 = .ok (.iload_n 2, 1) := by decide +kernel
theorem dX12_tune_11 : decode cX12_tune 11 = .ok (.i2l, 1) := by decide +kernel
theorem dX12_tune_12 : decode cX12_tune 12 = .ok (.lconst 0, 1) := by decide +kernel
theorem dX12_tune_13 : decode cX12_tune 13 = .ok (.iload_n 1, 1) := by decide +kernel
theorem dX12_tune_14 : decode cX12_tune 14 = .ok (.ifCond .ne 9, 3) := by decide +kernel
theorem dX12_tune_17 : decode cX12_tune 17 = .ok (.ldc2_w 297, 3) := by decide +kernel
theorem dX12_tune_20 : decode cX12_tune 20 = .ok (.goto 6, 3) := by decide +kernel
theorem dX12_tune_23 : decode cX12_tune 23 = .ok (.ldc2_w 299, 3) := by decide +kernel
theorem dX12_tune_26 : decode cX12_tune 26 = .ok (.invokestatic 139, 3) := by decide +kernel
theorem dX12_tune_29 : decode cX12_tune 29 = .ok (.ifCond .ne 6, 3) := by decide +kernel
theorem dX12_tune_32 : decode cX12_tune 32 = .ok (.bipush (-2), 2) := by decide +kernel
theorem dX12_tune_34 : decode cX12_tune 34 = .ok (.ireturn, 1) := by decide +kernel
theorem dX12_tune_35 : decode cX12_tune 35 = .ok (.iload_n 1, 1) := by decide +kernel
theorem dX12_tune_36 : decode cX12_tune 36 = .ok (.ifCond .ne 10, 3) := by decide +kernel
theorem dX12_tune_39 : decode cX12_tune 39 = .ok (.aload_n 0, 1) := by decide +kernel
theorem dX12_tune_40 : decode cX12_tune 40 = .ok (.getfield 91, 3) := by decide +kernel
theorem dX12_tune_43 : decode cX12_tune 43 = .ok (.goto 7, 3) := by decide +kernel
theorem dX12_tune_46 : decode cX12_tune 46 = .ok (.aload_n 0, 1) := by decide +kernel
theorem dX12_tune_47 : decode cX12_tune 47 = .ok (.getfield 95, 3) := by decide +kernel
theorem dX12_tune_50 : decode cX12_tune 50 = .ok (.istore_n 3, 1) := by decide +kernel
theorem dX12_tune_51 : decode cX12_tune 51 = .ok (.iload_n 1, 1) := by decide +kernel
theorem dX12_tune_52 : decode cX12_tune 52 = .ok (.ifCond .ne 11, 3) := by decide +kernel
theorem dX12_tune_55 : decode cX12_tune 55 = .ok (.aload_n 0, 1) := by decide +kernel
theorem dX12_tune_56 : decode cX12_tune 56 = .ok (.iload_n 2, 1) := by decide +kernel
theorem dX12_tune_57 : decode cX12_tune 57 = .ok (.putfield 91, 3) := by decide +kernel
theorem dX12_tune_60 : decode cX12_tune 60 = .ok (.goto 8, 3) := by decide +kernel
theorem dX12_tune_63 : decode cX12_tune 63 = .ok (.aload_n 0, 1) := by decide +kernel
theorem dX12_tune_64 : decode cX12_tune 64 = .ok (.iload_n 2, 1) := by decide +kernel
theorem dX12_tune_65 : decode cX12_tune 65 = .ok (.putfield 95, 3) := by decide +kernel
theorem dX12_tune_68 : decode cX12_tune 68 = .ok (.iload_n 3, 1) := by decide +kernel
theorem dX12_tune_69 : decode cX12_tune 69 = .ok (.ireturn, 1) := by decide +kernel
theorem dX12_rings_0 : decode cX12_rings 0 = .ok (.aload_n 0, 1) := by decide +kernel
theorem dX12_rings_1 : decode cX12_rings 1 = .ok (.iload_n 2, 1) := by decide +kernel
theorem dX12_rings_2 : decode cX12_rings 2 = .ok (.invokevirtual 200, 3) := by decide +kernel
theorem dX12_rings_5 : decode cX12_rings 5 = .ok (.istore_n 3, 1) := by decide +kernel
theorem dX12_rings_6 : decode cX12_rings 6 = .ok (.aload_n 0, 1) := by decide +kernel
theorem dX12_rings_7 : decode cX12_rings 7 = .ok (.getfield 25, 3) := by decide +kernel
theorem dX12_rings_10 : decode cX12_rings 10 = .ok (.iload_n 2, 1) := by decide +kernel
theorem dX12_rings_11 : decode cX12_rings 11 = .ok (.iaload, 1) := by decide +kernel
theorem dX12_rings_12 : decode cX12_rings 12 = .ok (.iload_n 1, 1) := by decide +kernel
theorem dX12_rings_13 : decode cX12_rings 13 = .ok (.if_icmp .ne 30, 3) := by decide +kernel
theorem dX12_rings_16 : decode cX12_rings 16 = .ok (.iload_n 3, 1) := by decide +kernel
theorem dX12_rings_17 : decode cX12_rings 17 = .ok (.ifCond .eq 8, 3) := by decide +kernel
theorem dX12_rings_20 : decode cX12_rings 20 = .ok (.iload_n 3, 1) := by decide +kernel
theorem dX12_rings_21 : decode cX12_rings 21 = .ok (.iconst 5, 1) := by decide +kernel
theorem dX12_rings_22 : decode cX12_rings 22 = .ok (.if_icmp .ne 21, 3) := by decide +kernel
theorem dX12_rings_25 : decode cX12_rings 25 = .ok (.aload_n 0, 1) := by decide +kernel
theorem dX12_rings_26 : decode cX12_rings 26 = .ok (.getfield 37, 3) := by decide +kernel
theorem dX12_rings_29 : decode cX12_rings 29 = .ok (.iconst 5, 1) := by decide +kernel
theorem dX12_rings_30 : decode cX12_rings 30 = .ok (.iload_n 2, 1) := by decide +kernel
theorem dX12_rings_31 : decode cX12_rings 31 = .ok (.imul, 1) := by decide +kernel
theorem dX12_rings_32 : decode cX12_rings 32 = .ok (.iconst 4, 1) := by decide +kernel
theorem dX12_rings_33 : decode cX12_rings 33 = .ok (.iadd, 1) := by decide +kernel
theorem dX12_rings_34 : decode cX12_rings 34 = .ok (.iaload, 1) := by decide +kernel
theorem dX12_rings_35 : decode cX12_rings 35 = .ok (.iconst (-1), 1) := by decide +kernel
theorem dX12_rings_36 : decode cX12_rings 36 = .ok (.if_icmp .eq 7, 3) := by decide +kernel
theorem dX12_rings_39 : decode cX12_rings 39 = .ok (.iconst 1, 1) := by decide +kernel
theorem dX12_rings_40 : decode cX12_rings 40 = .ok (.goto 4, 3) := by decide +kernel
theorem dX12_rings_43 : decode cX12_rings 43 = .ok (.iconst 0, 1) := by decide +kernel
theorem dX12_rings_44 : decode cX12_rings 44 = .ok (.ireturn, 1) := by decide +kernel
theorem dX12_groundOf_0 : decode cX12_groundOf 0 = .ok (.iconst (-1), 1) := by decide +kernel
theorem dX12_groundOf_1 : decode cX12_groundOf 1 = .ok (.istore_n 2, 1) := by decide +kernel
theorem dX12_groundOf_2 : decode cX12_groundOf 2 = .ok (.iconst 0, 1) := by decide +kernel
theorem dX12_groundOf_3 : decode cX12_groundOf 3 = .ok (.istore_n 3, 1) := by decide +kernel
theorem dX12_groundOf_4 : decode cX12_groundOf 4 = .ok (.iload_n 3, 1) := by decide +kernel
theorem dX12_groundOf_5 : decode cX12_groundOf 5 = .ok (.aload_n 0, 1) := by decide +kernel
theorem dX12_groundOf_6 : decode cX12_groundOf 6 = .ok (.getfield 167, 3) := by decide +kernel
theorem dX12_groundOf_9 : decode cX12_groundOf 9 = .ok (.if_icmp .ge 44, 3) := by decide +kernel
theorem dX12_groundOf_12 : decode cX12_groundOf 12 = .ok (.aload_n 0, 1) := by decide +kernel
theorem dX12_groundOf_13 : decode cX12_groundOf 13 = .ok (.iload_n 1, 1) := by decide +kernel
theorem dX12_groundOf_14 : decode cX12_groundOf 14 = .ok (.iload_n 3, 1) := by decide +kernel
theorem dX12_groundOf_15 : decode cX12_groundOf 15 = .ok (.invokevirtual 301, 3) := by decide +kernel
theorem dX12_groundOf_18 : decode cX12_groundOf 18 = .ok (.ifCond .eq 27, 3) := by decide +kernel
theorem dX12_groundOf_21 : decode cX12_groundOf 21 = .ok (.iload_n 2, 1) := by decide +kernel
theorem dX12_groundOf_22 : decode cX12_groundOf 22 = .ok (.iconst (-1), 1) := by decide +kernel
theorem dX12_groundOf_23 : decode cX12_groundOf 23 = .ok (.if_icmp .eq 18, 3) := by decide +kernel
theorem dX12_groundOf_26 : decode cX12_groundOf 26 = .ok (.aload_n 0, 1) := by decide +kernel
theorem dX12_groundOf_27 : decode cX12_groundOf 27 = .ok (.getfield 28, 3) := by decide +kernel
theorem dX12_groundOf_30 : decode cX12_groundOf 30 = .ok (.iload_n 3, 1) := by decide +kernel
theorem dX12_groundOf_31 : decode cX12_groundOf 31 = .ok (.iaload, 1) := by decide +kernel
theorem dX12_groundOf_32 : decode cX12_groundOf 32 = .ok (.aload_n 0, 1) := by decide +kernel
theorem dX12_groundOf_33 : decode cX12_groundOf 33 = .ok (.getfield 28, 3) := by decide +kernel
theorem dX12_groundOf_36 : decode cX12_groundOf 36 = .ok (.iload_n 2, 1) := by decide +kernel
theorem dX12_groundOf_37 : decode cX12_groundOf 37 = .ok (.iaload, 1) := by decide +kernel
theorem dX12_groundOf_38 : decode cX12_groundOf 38 = .ok (.if_icmp .le 7, 3) := by decide +kernel
theorem dX12_groundOf_41 : decode cX12_groundOf 41 = .ok (.iload_n 3, 1) := by decide +kernel
theorem dX12_groundOf_42 : decode cX12_groundOf 42 = .ok (.goto 4, 3) := by decide +kernel
theorem dX12_groundOf_45 : decode cX12_groundOf 45 = .ok (.iload_n 2, 1) := by decide +kernel
theorem dX12_groundOf_46 : decode cX12_groundOf 46 = .ok (.istore_n 2, 1) := by decide +kernel
theorem dX12_groundOf_47 : decode cX12_groundOf 47 = .ok (.iinc 3 1, 3) := by decide +kernel
theorem dX12_groundOf_50 : decode cX12_groundOf 50 = .ok (.goto (-46), 3) := by decide +kernel
theorem dX12_groundOf_53 : decode cX12_groundOf 53 = .ok (.iload_n 2, 1) := by decide +kernel
theorem dX12_groundOf_54 : decode cX12_groundOf 54 = .ok (.ireturn, 1) := by decide +kernel
theorem dX12_stepOf_0 : decode cX12_stepOf 0 = .ok (.iload_n 2, 1) := by decide +kernel
theorem dX12_stepOf_1 : decode cX12_stepOf 1 = .ok (.iconst (-1), 1) := by decide +kernel
theorem dX12_stepOf_2 : decode cX12_stepOf 2 = .ok (.if_icmp .eq 17, 3) := by decide +kernel
theorem dX12_stepOf_5 : decode cX12_stepOf 5 = .ok (.aload_n 0, 1) := by decide +kernel
theorem dX12_stepOf_6 : decode cX12_stepOf 6 = .ok (.getfield 37, 3) := by decide +kernel
theorem dX12_stepOf_9 : decode cX12_stepOf 9 = .ok (.iconst 5, 1) := by decide +kernel
theorem dX12_stepOf_10 : decode cX12_stepOf 10 = .ok (.iload_n 1, 1) := by decide +kernel
theorem dX12_stepOf_11 : decode cX12_stepOf 11 = .ok (.imul, 1) := by decide +kernel
theorem dX12_stepOf_12 : decode cX12_stepOf 12 = .ok (.iconst 4, 1) := by decide +kernel
theorem dX12_stepOf_13 : decode cX12_stepOf 13 = .ok (.iadd, 1) := by decide +kernel
theorem dX12_stepOf_14 : decode cX12_stepOf 14 = .ok (.iaload, 1) := by decide +kernel
theorem dX12_stepOf_15 : decode cX12_stepOf 15 = .ok (.iconst (-1), 1) := by decide +kernel
theorem dX12_stepOf_16 : decode cX12_stepOf 16 = .ok (.if_icmp .ne 5, 3) := by decide +kernel
theorem dX12_stepOf_19 : decode cX12_stepOf 19 = .ok (.iconst (-1), 1) := by decide +kernel
theorem dX12_stepOf_20 : decode cX12_stepOf 20 = .ok (.ireturn, 1) := by decide +kernel
theorem dX12_stepOf_21 : decode cX12_stepOf 21 = .ok (.aload_n 0, 1) := by decide +kernel
theorem dX12_stepOf_22 : decode cX12_stepOf 22 = .ok (.getfield 37, 3) := by decide +kernel
theorem dX12_stepOf_25 : decode cX12_stepOf 25 = .ok (.iconst 5, 1) := by decide +kernel
theorem dX12_stepOf_26 : decode cX12_stepOf 26 = .ok (.iload_n 1, 1) := by decide +kernel
theorem dX12_stepOf_27 : decode cX12_stepOf 27 = .ok (.imul, 1) := by decide +kernel
theorem dX12_stepOf_28 : decode cX12_stepOf 28 = .ok (.iconst 4, 1) := by decide +kernel
theorem dX12_stepOf_29 : decode cX12_stepOf 29 = .ok (.iadd, 1) := by decide +kernel
theorem dX12_stepOf_30 : decode cX12_stepOf 30 = .ok (.iaload, 1) := by decide +kernel
theorem dX12_stepOf_31 : decode cX12_stepOf 31 = .ok (.aload_n 0, 1) := by decide +kernel
theorem dX12_stepOf_32 : decode cX12_stepOf 32 = .ok (.getfield 37, 3) := by decide +kernel
theorem dX12_stepOf_35 : decode cX12_stepOf 35 = .ok (.iconst 5, 1) := by decide +kernel
theorem dX12_stepOf_36 : decode cX12_stepOf 36 = .ok (.iload_n 2, 1) := by decide +kernel
theorem dX12_stepOf_37 : decode cX12_stepOf 37 = .ok (.imul, 1) := by decide +kernel
theorem dX12_stepOf_38 : decode cX12_stepOf 38 = .ok (.iconst 4, 1) := by decide +kernel
theorem dX12_stepOf_39 : decode cX12_stepOf 39 = .ok (.iadd, 1) := by decide +kernel
theorem dX12_stepOf_40 : decode cX12_stepOf 40 = .ok (.iaload, 1) := by decide +kernel
theorem dX12_stepOf_41 : decode cX12_stepOf 41 = .ok (.isub, 1) := by decide +kernel
theorem dX12_stepOf_42 : decode cX12_stepOf 42 = .ok (.sipush 1200, 3) := by decide +kernel
theorem dX12_stepOf_45 : decode cX12_stepOf 45 = .ok (.irem, 1) := by decide +kernel
theorem dX12_stepOf_46 : decode cX12_stepOf 46 = .ok (.istore_n 3, 1) := by decide +kernel
theorem dX12_stepOf_47 : decode cX12_stepOf 47 = .ok (.iload_n 3, 1) := by decide +kernel
theorem dX12_stepOf_48 : decode cX12_stepOf 48 = .ok (.iload_n 3, 1) := by decide +kernel
theorem dX12_stepOf_49 : decode cX12_stepOf 49 = .ok (.ifCond .ge 9, 3) := by decide +kernel
theorem dX12_stepOf_52 : decode cX12_stepOf 52 = .ok (.sipush 1200, 3) := by decide +kernel
theorem dX12_stepOf_55 : decode cX12_stepOf 55 = .ok (.goto 4, 3) := by decide +kernel
theorem dX12_stepOf_58 : decode cX12_stepOf 58 = .ok (.iconst 0, 1) := by decide +kernel
theorem dX12_stepOf_59 : decode cX12_stepOf 59 = .ok (.iadd, 1) := by decide +kernel
theorem dX12_stepOf_60 : decode cX12_stepOf 60 = .ok (.istore_n 3, 1) := by decide +kernel
theorem dX12_stepOf_61 : decode cX12_stepOf 61 = .ok (.iconst 0, 1) := by decide +kernel
theorem dX12_stepOf_62 : decode cX12_stepOf 62 = .ok (.istore 4, 2) := by decide +kernel
theorem dX12_stepOf_64 : decode cX12_stepOf 64 = .ok (.iload 4, 2) := by decide +kernel
theorem dX12_stepOf_66 : decode cX12_stepOf 66 = .ok (.bipush 13, 2) := by decide +kernel
theorem dX12_stepOf_68 : decode cX12_stepOf 68 = .ok (.if_icmp .ge 31, 3) := by decide +kernel
theorem dX12_stepOf_71 : decode cX12_stepOf 71 = .ok (.iload_n 3, 1) := by decide +kernel
theorem dX12_stepOf_72 : decode cX12_stepOf 72 = .ok (.bipush 100, 2) := by decide +kernel
theorem dX12_stepOf_74 : decode cX12_stepOf 74 = .ok (.iload 4, 2) := by decide +kernel
theorem dX12_stepOf_76 : decode cX12_stepOf 76 = .ok (.imul, 1) := by decide +kernel
theorem dX12_stepOf_77 : decode cX12_stepOf 77 = .ok (.invokestatic 260, 3) := by decide +kernel
theorem dX12_stepOf_80 : decode cX12_stepOf 80 = .ok (.aload_n 0, 1) := by decide +kernel
theorem dX12_stepOf_81 : decode cX12_stepOf 81 = .ok (.getfield 91, 3) := by decide +kernel
theorem dX12_stepOf_84 : decode cX12_stepOf 84 = .ok (.if_icmp .gt 9, 3) := by decide +kernel
theorem dX12_stepOf_87 : decode cX12_stepOf 87 = .ok (.iload 4, 2) := by decide +kernel
theorem dX12_stepOf_89 : decode cX12_stepOf 89 = .ok (.bipush 12, 2) := by decide +kernel
theorem dX12_stepOf_91 : decode cX12_stepOf 91 = .ok (.irem, 1) := by decide +kernel
theorem dX12_stepOf_92 : decode cX12_stepOf 92 = .ok (.ireturn, 1) := by decide +kernel
theorem dX12_stepOf_93 : decode cX12_stepOf 93 = .ok (.iinc 4 1, 3) := by decide +kernel
theorem dX12_stepOf_96 : decode cX12_stepOf 96 = .ok (.goto (-32), 3) := by decide +kernel
theorem dX12_stepOf_99 : decode cX12_stepOf 99 = .ok (.iconst (-1), 1) := by decide +kernel
theorem dX12_stepOf_100 : decode cX12_stepOf 100 = .ok (.ireturn, 1) := by decide +kernel
theorem dX12_pealOf_0 : decode cX12_pealOf 0 = .ok (.aload_n 0, 1) := by decide +kernel
theorem dX12_pealOf_1 : decode cX12_pealOf 1 = .ok (.iload_n 1, 1) := by decide +kernel
theorem dX12_pealOf_2 : decode cX12_pealOf 2 = .ok (.invokevirtual 304, 3) := by decide +kernel
theorem dX12_pealOf_5 : decode cX12_pealOf 5 = .ok (.istore_n 3, 1) := by decide +kernel
theorem dX12_pealOf_6 : decode cX12_pealOf 6 = .ok (.iconst 0, 1) := by decide +kernel
theorem dX12_pealOf_7 : decode cX12_pealOf 7 = .ok (.istore 4, 2) := by decide +kernel
theorem dX12_pealOf_9 : decode cX12_pealOf 9 = .ok (.iconst 0, 1) := by decide +kernel
theorem dX12_pealOf_10 : decode cX12_pealOf 10 = .ok (.istore 5, 2) := by decide +kernel
theorem dX12_pealOf_12 : decode cX12_pealOf 12 = .ok (.iconst 0, 1) := by decide +kernel
theorem dX12_pealOf_13 : decode cX12_pealOf 13 = .ok (.istore 6, 2) := by decide +kernel
theorem dX12_pealOf_15 : decode cX12_pealOf 15 = .ok (.iconst 0, 1) := by decide +kernel
theorem dX12_pealOf_16 : decode cX12_pealOf 16 = .ok (.istore 7, 2) := by decide +kernel
theorem dX12_pealOf_18 : decode cX12_pealOf 18 = .ok (.iload 7, 2) := by decide +kernel
theorem dX12_pealOf_20 : decode cX12_pealOf 20 = .ok (.aload_n 0, 1) := by decide +kernel
theorem dX12_pealOf_21 : decode cX12_pealOf 21 = .ok (.getfield 167, 3) := by decide +kernel
theorem dX12_pealOf_24 : decode cX12_pealOf 24 = .ok (.if_icmp .ge 66, 3) := by decide +kernel
theorem dX12_pealOf_27 : decode cX12_pealOf 27 = .ok (.aload_n 0, 1) := by decide +kernel
theorem dX12_pealOf_28 : decode cX12_pealOf 28 = .ok (.iload_n 1, 1) := by decide +kernel
theorem dX12_pealOf_29 : decode cX12_pealOf 29 = .ok (.iload 7, 2) := by decide +kernel
theorem dX12_pealOf_31 : decode cX12_pealOf 31 = .ok (.invokevirtual 301, 3) := by decide +kernel
theorem dX12_pealOf_34 : decode cX12_pealOf 34 = .ok (.ifCond .eq 50, 3) := by decide +kernel
theorem dX12_pealOf_37 : decode cX12_pealOf 37 = .ok (.iinc 4 1, 3) := by decide +kernel
theorem dX12_pealOf_40 : decode cX12_pealOf 40 = .ok (.aload_n 0, 1) := by decide +kernel
theorem dX12_pealOf_41 : decode cX12_pealOf 41 = .ok (.iload 7, 2) := by decide +kernel
theorem dX12_pealOf_43 : decode cX12_pealOf 43 = .ok (.iload_n 3, 1) := by decide +kernel
theorem dX12_pealOf_44 : decode cX12_pealOf 44 = .ok (.invokevirtual 307, 3) := by decide +kernel
theorem dX12_pealOf_47 : decode cX12_pealOf 47 = .ok (.istore 8, 2) := by decide +kernel
theorem dX12_pealOf_49 : decode cX12_pealOf 49 = .ok (.iload 5, 2) := by decide +kernel
theorem dX12_pealOf_51 : decode cX12_pealOf 51 = .ok (.iload 8, 2) := by decide +kernel
theorem dX12_pealOf_53 : decode cX12_pealOf 53 = .ok (.iconst (-1), 1) := by decide +kernel
theorem dX12_pealOf_54 : decode cX12_pealOf 54 = .ok (.if_icmp .ne 7, 3) := by decide +kernel
theorem dX12_pealOf_57 : decode cX12_pealOf 57 = .ok (.iconst 1, 1) := by decide +kernel
theorem dX12_pealOf_58 : decode cX12_pealOf 58 = .ok (.goto 4, 3) := by decide +kernel
theorem dX12_pealOf_61 : decode cX12_pealOf 61 = .ok (.iconst 0, 1) := by decide +kernel
theorem dX12_pealOf_62 : decode cX12_pealOf 62 = .ok (.iadd, 1) := by decide +kernel
theorem dX12_pealOf_63 : decode cX12_pealOf 63 = .ok (.istore 5, 2) := by decide +kernel
theorem dX12_pealOf_65 : decode cX12_pealOf 65 = .ok (.iload 6, 2) := by decide +kernel
theorem dX12_pealOf_67 : decode cX12_pealOf 67 = .ok (.iload 8, 2) := by decide +kernel
theorem dX12_pealOf_69 : decode cX12_pealOf 69 = .ok (.iconst (-1), 1) := by decide +kernel
theorem dX12_pealOf_70 : decode cX12_pealOf 70 = .ok (.if_icmp .ne 7, 3) := by decide +kernel
theorem dX12_pealOf_73 : decode cX12_pealOf 73 = .ok (.iconst 0, 1) := by decide +kernel
theorem dX12_pealOf_74 : decode cX12_pealOf 74 = .ok (.goto 7, 3) := by decide +kernel
theorem dX12_pealOf_77 : decode cX12_pealOf 77 = .ok (.iconst 1, 1) := by decide +kernel
theorem dX12_pealOf_78 : decode cX12_pealOf 78 = .ok (.iload 8, 2) := by decide +kernel
theorem dX12_pealOf_80 : decode cX12_pealOf 80 = .ok (.ishl, 1) := by decide +kernel
theorem dX12_pealOf_81 : decode cX12_pealOf 81 = .ok (.ior, 1) := by decide +kernel
theorem dX12_pealOf_82 : decode cX12_pealOf 82 = .ok (.istore 6, 2) := by decide +kernel
theorem dX12_pealOf_84 : decode cX12_pealOf 84 = .ok (.iinc 7 1, 3) := by decide +kernel
theorem dX12_pealOf_87 : decode cX12_pealOf 87 = .ok (.goto (-69), 3) := by decide +kernel
theorem dX12_pealOf_90 : decode cX12_pealOf 90 = .ok (.aload_n 0, 1) := by decide +kernel
theorem dX12_pealOf_91 : decode cX12_pealOf 91 = .ok (.getfield 95, 3) := by decide +kernel
theorem dX12_pealOf_94 : decode cX12_pealOf 94 = .ok (.iload 6, 2) := by decide +kernel
theorem dX12_pealOf_96 : decode cX12_pealOf 96 = .ok (.iconst (-1), 1) := by decide +kernel
theorem dX12_pealOf_97 : decode cX12_pealOf 97 = .ok (.ixor, 1) := by decide +kernel
theorem dX12_pealOf_98 : decode cX12_pealOf 98 = .ok (.iand, 1) := by decide +kernel
theorem dX12_pealOf_99 : decode cX12_pealOf 99 = .ok (.istore 7, 2) := by decide +kernel
theorem dX12_pealOf_101 : decode cX12_pealOf 101 = .ok (.iload_n 2, 1) := by decide +kernel
theorem dX12_pealOf_102 : decode cX12_pealOf 102 = .ok (.iconst 4, 1) := by decide +kernel
theorem dX12_pealOf_103 : decode cX12_pealOf 103 = .ok (.if_icmp .ge 34, 3) := by decide +kernel
theorem dX12_pealOf_106 : decode cX12_pealOf 106 = .ok (.iload_n 2, 1) := by decide +kernel
theorem dX12_pealOf_107 : decode cX12_pealOf 107 = .ok (.ifCond .ne 8, 3) := by decide +kernel
theorem dX12_pealOf_110 : decode cX12_pealOf 110 = .ok (.iload 4, 2) := by decide +kernel
theorem dX12_pealOf_112 : decode cX12_pealOf 112 = .ok (.goto 24, 3) := by decide +kernel
theorem dX12_pealOf_115 : decode cX12_pealOf 115 = .ok (.iload_n 2, 1) := by decide +kernel
theorem dX12_pealOf_116 : decode cX12_pealOf 116 = .ok (.iconst 1, 1) := by decide +kernel
theorem dX12_pealOf_117 : decode cX12_pealOf 117 = .ok (.if_icmp .ne 7, 3) := by decide +kernel
theorem dX12_pealOf_120 : decode cX12_pealOf 120 = .ok (.iload_n 3, 1) := by decide +kernel
theorem dX12_pealOf_121 : decode cX12_pealOf 121 = .ok (.goto 15, 3) := by decide +kernel
theorem dX12_pealOf_124 : decode cX12_pealOf 124 = .ok (.iload_n 2, 1) := by decide +kernel
theorem dX12_pealOf_125 : decode cX12_pealOf 125 = .ok (.iconst 2, 1) := by decide +kernel
theorem dX12_pealOf_126 : decode cX12_pealOf 126 = .ok (.if_icmp .ne 8, 3) := by decide +kernel
theorem dX12_pealOf_129 : decode cX12_pealOf 129 = .ok (.iload 5, 2) := by decide +kernel
theorem dX12_pealOf_131 : decode cX12_pealOf 131 = .ok (.goto 5, 3) := by decide +kernel
theorem dX12_pealOf_134 : decode cX12_pealOf 134 = .ok (.iload 7, 2) := by decide +kernel
theorem dX12_pealOf_136 : decode cX12_pealOf 136 = .ok (.ireturn, 1) := by decide +kernel
theorem dX12_pealOf_137 : decode cX12_pealOf 137 = .ok (.iload_n 2, 1) := by decide +kernel
theorem dX12_pealOf_138 : decode cX12_pealOf 138 = .ok (.iconst 4, 1) := by decide +kernel
theorem dX12_pealOf_139 : decode cX12_pealOf 139 = .ok (.if_icmp .ne 36, 3) := by decide +kernel
theorem dX12_pealOf_142 : decode cX12_pealOf 142 = .ok (.iload 4, 2) := by decide +kernel
theorem dX12_pealOf_144 : decode cX12_pealOf 144 = .ok (.ifCond .le 29, 3) := by decide +kernel
theorem dX12_pealOf_147 : decode cX12_pealOf 147 = .ok (.iload 5, 2) := by decide +kernel
theorem dX12_pealOf_149 : decode cX12_pealOf 149 = .ok (.ifCond .ne 24, 3) := by decide +kernel
theorem dX12_pealOf_152 : decode cX12_pealOf 152 = .ok (.iload 7, 2) := by decide +kernel
theorem dX12_pealOf_154 : decode cX12_pealOf 154 = .ok (.ifCond .ne 19, 3) := by decide +kernel
theorem dX12_pealOf_157 : decode cX12_pealOf 157 = .ok (.iload 6, 2) := by decide +kernel
theorem dX12_pealOf_159 : decode cX12_pealOf 159 = .ok (.aload_n 0, 1) := by decide +kernel
theorem dX12_pealOf_160 : decode cX12_pealOf 160 = .ok (.getfield 95, 3) := by decide +kernel
theorem dX12_pealOf_163 : decode cX12_pealOf 163 = .ok (.iconst (-1), 1) := by decide +kernel
theorem dX12_pealOf_164 : decode cX12_pealOf 164 = .ok (.ixor, 1) := by decide +kernel
theorem dX12_pealOf_165 : decode cX12_pealOf 165 = .ok (.iand, 1) := by decide +kernel
theorem dX12_pealOf_166 : decode cX12_pealOf 166 = .ok (.ifCond .ne 7, 3) := by decide +kernel
theorem dX12_pealOf_169 : decode cX12_pealOf 169 = .ok (.iconst 1, 1) := by decide +kernel
theorem dX12_pealOf_170 : decode cX12_pealOf 170 = .ok (.goto 4, 3) := by decide +kernel
theorem dX12_pealOf_173 : decode cX12_pealOf 173 = .ok (.iconst 0, 1) := by decide +kernel
theorem dX12_pealOf_174 : decode cX12_pealOf 174 = .ok (.ireturn, 1) := by decide +kernel
theorem dX12_pealOf_175 : decode cX12_pealOf 175 = .ok (.iconst (-1), 1) := by decide +kernel
theorem dX12_pealOf_176 : decode cX12_pealOf 176 = .ok (.istore 8, 2) := by decide +kernel
theorem dX12_pealOf_178 : decode cX12_pealOf 178 = .ok (.iconst 0, 1) := by decide +kernel
theorem dX12_pealOf_179 : decode cX12_pealOf 179 = .ok (.istore 9, 2) := by decide +kernel
theorem dX12_pealOf_181 : decode cX12_pealOf 181 = .ok (.iload 9, 2) := by decide +kernel
theorem dX12_pealOf_183 : decode cX12_pealOf 183 = .ok (.aload_n 0, 1) := by decide +kernel
theorem dX12_pealOf_184 : decode cX12_pealOf 184 = .ok (.getfield 167, 3) := by decide +kernel
theorem dX12_pealOf_187 : decode cX12_pealOf 187 = .ok (.if_icmp .ge 103, 3) := by decide +kernel
theorem dX12_pealOf_190 : decode cX12_pealOf 190 = .ok (.aload_n 0, 1) := by decide +kernel
theorem dX12_pealOf_191 : decode cX12_pealOf 191 = .ok (.iload 9, 2) := by decide +kernel
theorem dX12_pealOf_193 : decode cX12_pealOf 193 = .ok (.invokevirtual 200, 3) := by decide +kernel
theorem dX12_pealOf_196 : decode cX12_pealOf 196 = .ok (.istore 10, 2) := by decide +kernel
theorem dX12_pealOf_198 : decode cX12_pealOf 198 = .ok (.iload 10, 2) := by decide +kernel
theorem dX12_pealOf_200 : decode cX12_pealOf 200 = .ok (.iconst 2, 1) := by decide +kernel
theorem dX12_pealOf_201 : decode cX12_pealOf 201 = .ok (.if_icmp .eq 9, 3) := by decide +kernel
theorem dX12_pealOf_204 : decode cX12_pealOf 204 = .ok (.iload 10, 2) := by decide +kernel
theorem dX12_pealOf_206 : decode cX12_pealOf 206 = .ok (.iconst 3, 1) := by decide +kernel
theorem dX12_pealOf_207 : decode cX12_pealOf 207 = .ok (.if_icmp .ne 13, 3) := by decide +kernel
theorem dX12_pealOf_210 : decode cX12_pealOf 210 = .ok (.aload_n 0, 1) := by decide +kernel
theorem dX12_pealOf_211 : decode cX12_pealOf 211 = .ok (.iload 9, 2) := by decide +kernel
theorem dX12_pealOf_213 : decode cX12_pealOf 213 = .ok (.iload_n 3, 1) := by decide +kernel
theorem dX12_pealOf_214 : decode cX12_pealOf 214 = .ok (.invokevirtual 307, 3) := by decide +kernel
theorem dX12_pealOf_217 : decode cX12_pealOf 217 = .ok (.goto 4, 3) := by decide +kernel
theorem dX12_pealOf_220 : decode cX12_pealOf 220 = .ok (.iconst (-1), 1) := by decide +kernel
theorem dX12_pealOf_221 : decode cX12_pealOf 221 = .ok (.istore 11, 2) := by decide +kernel
theorem dX12_pealOf_223 : decode cX12_pealOf 223 = .ok (.iload 11, 2) := by decide +kernel
theorem dX12_pealOf_225 : decode cX12_pealOf 225 = .ok (.iconst (-1), 1) := by decide +kernel
theorem dX12_pealOf_226 : decode cX12_pealOf 226 = .ok (.if_icmp .eq 18, 3) := by decide +kernel
theorem dX12_pealOf_229 : decode cX12_pealOf 229 = .ok (.iload 7, 2) := by decide +kernel
theorem dX12_pealOf_231 : decode cX12_pealOf 231 = .ok (.iload 11, 2) := by decide +kernel
theorem dX12_pealOf_233 : decode cX12_pealOf 233 = .ok (.ishr, 1) := by decide +kernel
theorem dX12_pealOf_234 : decode cX12_pealOf 234 = .ok (.iconst 1, 1) := by decide +kernel
theorem dX12_pealOf_235 : decode cX12_pealOf 235 = .ok (.iand, 1) := by decide +kernel
theorem dX12_pealOf_236 : decode cX12_pealOf 236 = .ok (.iconst 1, 1) := by decide +kernel
theorem dX12_pealOf_237 : decode cX12_pealOf 237 = .ok (.if_icmp .ne 7, 3) := by decide +kernel
theorem dX12_pealOf_240 : decode cX12_pealOf 240 = .ok (.iconst 1, 1) := by decide +kernel
theorem dX12_pealOf_241 : decode cX12_pealOf 241 = .ok (.goto 4, 3) := by decide +kernel
theorem dX12_pealOf_244 : decode cX12_pealOf 244 = .ok (.iconst 0, 1) := by decide +kernel
theorem dX12_pealOf_245 : decode cX12_pealOf 245 = .ok (.istore 12, 2) := by decide +kernel
theorem dX12_pealOf_247 : decode cX12_pealOf 247 = .ok (.iload 12, 2) := by decide +kernel
theorem dX12_pealOf_249 : decode cX12_pealOf 249 = .ok (.ifCond .eq 31, 3) := by decide +kernel
theorem dX12_pealOf_252 : decode cX12_pealOf 252 = .ok (.iload 8, 2) := by decide +kernel
theorem dX12_pealOf_254 : decode cX12_pealOf 254 = .ok (.iconst (-1), 1) := by decide +kernel
theorem dX12_pealOf_255 : decode cX12_pealOf 255 = .ok (.if_icmp .eq 20, 3) := by decide +kernel
theorem dX12_pealOf_258 : decode cX12_pealOf 258 = .ok (.aload_n 0, 1) := by decide +kernel
theorem dX12_pealOf_259 : decode cX12_pealOf 259 = .ok (.getfield 28, 3) := by decide +kernel
theorem dX12_pealOf_262 : decode cX12_pealOf 262 = .ok (.iload 9, 2) := by decide +kernel
theorem dX12_pealOf_264 : decode cX12_pealOf 264 = .ok (.iaload, 1) := by decide +kernel
theorem dX12_pealOf_265 : decode cX12_pealOf 265 = .ok (.aload_n 0, 1) := by decide +kernel
theorem dX12_pealOf_266 : decode cX12_pealOf 266 = .ok (.getfield 28, 3) := by decide +kernel
theorem dX12_pealOf_269 : decode cX12_pealOf 269 = .ok (.iload 8, 2) := by decide +kernel
theorem dX12_pealOf_271 : decode cX12_pealOf 271 = .ok (.iaload, 1) := by decide +kernel
theorem dX12_pealOf_272 : decode cX12_pealOf 272 = .ok (.if_icmp .le 8, 3) := by decide +kernel
theorem dX12_pealOf_275 : decode cX12_pealOf 275 = .ok (.iload 9, 2) := by decide +kernel
theorem dX12_pealOf_277 : decode cX12_pealOf 277 = .ok (.goto 5, 3) := by decide +kernel
theorem dX12_pealOf_280 : decode cX12_pealOf 280 = .ok (.iload 8, 2) := by decide +kernel
theorem dX12_pealOf_282 : decode cX12_pealOf 282 = .ok (.istore 8, 2) := by decide +kernel
theorem dX12_pealOf_284 : decode cX12_pealOf 284 = .ok (.iinc 9 1, 3) := by decide +kernel
theorem dX12_pealOf_287 : decode cX12_pealOf 287 = .ok (.goto (-106), 3) := by decide +kernel
theorem dX12_pealOf_290 : decode cX12_pealOf 290 = .ok (.iload 8, 2) := by decide +kernel
theorem dX12_pealOf_292 : decode cX12_pealOf 292 = .ok (.ireturn, 1) := by decide +kernel
theorem dX12_peal_0 : decode cX12_peal 0 = .ok (.aload_n 0, 1) := by decide +kernel
theorem dX12_peal_1 : decode cX12_peal 1 = .ok (.iload_n 1, 1) := by decide +kernel
theorem dX12_peal_2 : decode cX12_peal 2 = .ok (.invokevirtual 175, 3) := by decide +kernel
theorem dX12_peal_5 : decode cX12_peal 5 = .ok (.ifCond .eq 24, 3) := by decide +kernel
theorem dX12_peal_8 : decode cX12_peal 8 = .ok (.iload_n 2, 1) := by decide +kernel
theorem dX12_peal_9 : decode cX12_peal 9 = .ok (.i2l, 1) := by decide +kernel
theorem dX12_peal_10 : decode cX12_peal 10 = .ok (.lconst 0, 1) := by decide +kernel
theorem dX12_peal_11 : decode cX12_peal 11 = .ok (.ldc2_w 203, 3) := by decide +kernel
theorem dX12_peal_14 : decode cX12_peal 14 = .ok (.invokestatic 139, 3) := by decide +kernel
theorem dX12_peal_17 : decode cX12_peal 17 = .ok (.ifCond .eq 12, 3) := by decide +kernel
theorem dX12_peal_20 : decode cX12_peal 20 = .ok (.aload_n 0, 1) := by decide +kernel
theorem dX12_peal_21 : decode cX12_peal 21 = .ok (.iload_n 1, 1) := by decide +kernel
theorem dX12_peal_22 : decode cX12_peal 22 = .ok (.iload_n 2, 1) := by decide +kernel
theorem dX12_peal_23 : decode cX12_peal 23 = .ok (.invokevirtual 310, 3) := by decide +kernel
theorem dX12_peal_26 : decode cX12_peal 26 = .ok (.goto 6, 3) := by decide +kernel
theorem dX12_peal_29 : decode cX12_peal 29 = .ok (.sipush (-1000), 3) := by decide +kernel
theorem dX12_peal_32 : decode cX12_peal 32 = .ok (.ireturn, 1) := by decide +kernel
theorem dX12_step_0 : decode cX12_step 0 = .ok (.aload_n 0, 1) := by decide +kernel
theorem dX12_step_1 : decode cX12_step 1 = .ok (.iload_n 1, 1) := by decide +kernel
theorem dX12_step_2 : decode cX12_step 2 = .ok (.invokevirtual 175, 3) := by decide +kernel
theorem dX12_step_5 : decode cX12_step 5 = .ok (.ifCond .eq 24, 3) := by decide +kernel
theorem dX12_step_8 : decode cX12_step 8 = .ok (.aload_n 0, 1) := by decide +kernel
theorem dX12_step_9 : decode cX12_step 9 = .ok (.iload_n 2, 1) := by decide +kernel
theorem dX12_step_10 : decode cX12_step 10 = .ok (.invokevirtual 190, 3) := by decide +kernel
theorem dX12_step_13 : decode cX12_step 13 = .ok (.ifCond .eq 16, 3) := by decide +kernel
theorem dX12_step_16 : decode cX12_step 16 = .ok (.aload_n 0, 1) := by decide +kernel
theorem dX12_step_17 : decode cX12_step 17 = .ok (.iload_n 2, 1) := by decide +kernel
theorem dX12_step_18 : decode cX12_step 18 = .ok (.aload_n 0, 1) := by decide +kernel
theorem dX12_step_19 : decode cX12_step 19 = .ok (.iload_n 1, 1) := by decide +kernel
theorem dX12_step_20 : decode cX12_step 20 = .ok (.invokevirtual 304, 3) := by decide +kernel
theorem dX12_step_23 : decode cX12_step 23 = .ok (.invokevirtual 307, 3) := by decide +kernel
theorem dX12_step_26 : decode cX12_step 26 = .ok (.goto 5, 3) := by decide +kernel
theorem dX12_step_29 : decode cX12_step 29 = .ok (.bipush (-2), 2) := by decide +kernel
theorem dX12_step_31 : decode cX12_step 31 = .ok (.ireturn, 1) := by decide +kernel
theorem dX12_isBatch_0 : decode cX12_isBatch 0 = .ok (.iload_n 1, 1) := by decide +kernel
theorem dX12_isBatch_1 : decode cX12_isBatch 1 = .ok (.i2l, 1) := by decide +kernel
theorem dX12_isBatch_2 : decode cX12_isBatch 2 = .ok (.lconst 0, 1) := by decide +kernel
theorem dX12_isBatch_3 : decode cX12_isBatch 3 = .ok (.aload_n 0, 1) := by decide +kernel
theorem dX12_isBatch_4 : decode cX12_isBatch 4 = .ok (.getfield 313, 3) := by decide +kernel
theorem dX12_isBatch_7 : decode cX12_isBatch 7 = .ok (.iconst 1, 1) := by decide +kernel
theorem dX12_isBatch_8 : decode cX12_isBatch 8 = .ok (.isub, 1) := by decide +kernel
theorem dX12_isBatch_9 : decode cX12_isBatch 9 = .ok (.i2l, 1) := by decide +kernel
theorem dX12_isBatch_10 : decode cX12_isBatch 10 = .ok (.invokestatic 139, 3) := by decide +kernel
theorem dX12_isBatch_13 : decode cX12_isBatch 13 = .ok (.ireturn, 1) := by decide +kernel
theorem dX12_areBells_0 : decode cX12_areBells 0 = .ok (.iload_n 1, 1) := by decide +kernel
theorem dX12_areBells_1 : decode cX12_areBells 1 = .ok (.i2l, 1) := by decide +kernel
theorem dX12_areBells_2 : decode cX12_areBells 2 = .ok (.lconst 0, 1) := by decide +kernel
theorem dX12_areBells_3 : decode cX12_areBells 3 = .ok (.iconst 1, 1) := by decide +kernel
theorem dX12_areBells_4 : decode cX12_areBells 4 = .ok (.aload_n 0, 1) := by decide +kernel
theorem dX12_areBells_5 : decode cX12_areBells 5 = .ok (.getfield 167, 3) := by decide +kernel
theorem dX12_areBells_8 : decode cX12_areBells 8 = .ok (.ishl, 1) := by decide +kernel
theorem dX12_areBells_9 : decode cX12_areBells 9 = .ok (.iconst 1, 1) := by decide +kernel
theorem dX12_areBells_10 : decode cX12_areBells 10 = .ok (.isub, 1) := by decide +kernel
theorem dX12_areBells_11 : decode cX12_areBells 11 = .ok (.i2l, 1) := by decide +kernel
theorem dX12_areBells_12 : decode cX12_areBells 12 = .ok (.invokestatic 139, 3) := by decide +kernel
theorem dX12_areBells_15 : decode cX12_areBells 15 = .ok (.ireturn, 1) := by decide +kernel
theorem dX12_batch_0 : decode cX12_batch 0 = .ok (.iload_n 1, 1) := by decide +kernel
theorem dX12_batch_1 : decode cX12_batch 1 = .ok (.i2l, 1) := by decide +kernel
theorem dX12_batch_2 : decode cX12_batch 2 = .ok (.lconst 0, 1) := by decide +kernel
theorem dX12_batch_3 : decode cX12_batch 3 = .ok (.ldc2_w 316, 3) := by decide +kernel
theorem dX12_batch_6 : decode cX12_batch 6 = .ok (.invokestatic 139, 3) := by decide +kernel
theorem dX12_batch_9 : decode cX12_batch 9 = .ok (.ifCond .eq 65, 3) := by decide +kernel
theorem dX12_batch_12 : decode cX12_batch 12 = .ok (.iload_n 2, 1) := by decide +kernel
theorem dX12_batch_13 : decode cX12_batch 13 = .ok (.i2l, 1) := by decide +kernel
theorem dX12_batch_14 : decode cX12_batch 14 = .ok (.lconst 0, 1) := by decide +kernel
theorem dX12_batch_15 : decode cX12_batch 15 = .ok (.ldc2_w 178, 3) := by decide +kernel
theorem dX12_batch_18 : decode cX12_batch 18 = .ok (.invokestatic 139, 3) := by decide +kernel
theorem dX12_batch_21 : decode cX12_batch 21 = .ok (.ifCond .eq 53, 3) := by decide +kernel
theorem dX12_batch_24 : decode cX12_batch 24 = .ok (.iload 4, 2) := by decide +kernel
theorem dX12_batch_26 : decode cX12_batch 26 = .ok (.i2l, 1) := by decide +kernel
theorem dX12_batch_27 : decode cX12_batch 27 = .ok (.lconst 0, 1) := by decide +kernel
theorem dX12_batch_28 : decode cX12_batch 28 = .ok (.ldc2_w 170, 3) := by decide +kernel
theorem dX12_batch_31 : decode cX12_batch 31 = .ok (.invokestatic 139, 3) := by decide +kernel
theorem dX12_batch_34 : decode cX12_batch 34 = .ok (.ifCond .eq 40, 3) := by decide +kernel
theorem dX12_batch_37 : decode cX12_batch 37 = .ok (.iload_n 3, 1) := by decide +kernel
theorem dX12_batch_38 : decode cX12_batch 38 = .ok (.i2l, 1) := by decide +kernel
theorem dX12_batch_39 : decode cX12_batch 39 = .ok (.lconst 0, 1) := by decide +kernel
theorem dX12_batch_40 : decode cX12_batch 40 = .ok (.iload 4, 2) := by decide +kernel
theorem dX12_batch_42 : decode cX12_batch 42 = .ok (.i2l, 1) := by decide +kernel
theorem dX12_batch_43 : decode cX12_batch 43 = .ok (.invokestatic 139, 3) := by decide +kernel
theorem dX12_batch_46 : decode cX12_batch 46 = .ok (.ifCond .eq 28, 3) := by decide +kernel
theorem dX12_batch_49 : decode cX12_batch 49 = .ok (.aload_n 0, 1) := by decide +kernel
theorem dX12_batch_50 : decode cX12_batch 50 = .ok (.iload 5, 2) := by decide +kernel
theorem dX12_batch_52 : decode cX12_batch 52 = .ok (.invokevirtual 318, 3) := by decide +kernel
theorem dX12_batch_55 : decode cX12_batch 55 = .ok (.ifCond .eq 19, 3) := by decide +kernel
theorem dX12_batch_58 : decode cX12_batch 58 = .ok (.iload 5, 2) := by decide +kernel
theorem dX12_batch_60 : decode cX12_batch 60 = .ok (.invokestatic 272, 3) := by decide +kernel
theorem dX12_batch_63 : decode cX12_batch 63 = .ok (.i2l, 1) := by decide +kernel
theorem dX12_batch_64 : decode cX12_batch 64 = .ok (.lconst 1, 1) := by decide +kernel
theorem dX12_batch_65 : decode cX12_batch 65 = .ok (.ldc2_w 321, 3) := by decide +kernel
theorem dX12_batch_68 : decode cX12_batch 68 = .ok (.invokestatic 139, 3) := by decide +kernel
theorem dX12_batch_71 : decode cX12_batch 71 = .ok (.ifCond .ne 6, 3) := by decide +kernel
theorem dX12_batch_74 : decode cX12_batch 74 = .ok (.bipush (-2), 2) := by decide +kernel
theorem dX12_batch_76 : decode cX12_batch 76 = .ok (.ireturn, 1) := by decide +kernel
theorem dX12_batch_77 : decode cX12_batch 77 = .ok (.aload_n 0, 1) := by decide +kernel
theorem dX12_batch_78 : decode cX12_batch 78 = .ok (.getfield 313, 3) := by decide +kernel
theorem dX12_batch_81 : decode cX12_batch 81 = .ok (.bipush 6, 2) := by decide +kernel
theorem dX12_batch_83 : decode cX12_batch 83 = .ok (.if_icmp .ne 6, 3) := by decide +kernel
theorem dX12_batch_86 : decode cX12_batch 86 = .ok (.bipush (-4), 2) := by decide +kernel
theorem dX12_batch_88 : decode cX12_batch 88 = .ok (.ireturn, 1) := by decide +kernel
theorem dX12_batch_89 : decode cX12_batch 89 = .ok (.aload_n 0, 1) := by decide +kernel
theorem dX12_batch_90 : decode cX12_batch 90 = .ok (.getfield 98, 3) := by decide +kernel
theorem dX12_batch_93 : decode cX12_batch 93 = .ok (.aload_n 0, 1) := by decide +kernel
theorem dX12_batch_94 : decode cX12_batch 94 = .ok (.getfield 313, 3) := by decide +kernel
theorem dX12_batch_97 : decode cX12_batch 97 = .ok (.iload_n 1, 1) := by decide +kernel
theorem dX12_batch_98 : decode cX12_batch 98 = .ok (.iastore, 1) := by decide +kernel
theorem dX12_batch_99 : decode cX12_batch 99 = .ok (.aload_n 0, 1) := by decide +kernel
theorem dX12_batch_100 : decode cX12_batch 100 = .ok (.getfield 101, 3) := by decide +kernel
theorem dX12_batch_103 : decode cX12_batch 103 = .ok (.aload_n 0, 1) := by decide +kernel
theorem dX12_batch_104 : decode cX12_batch 104 = .ok (.getfield 313, 3) := by decide +kernel
theorem dX12_batch_107 : decode cX12_batch 107 = .ok (.iload_n 2, 1) := by decide +kernel
theorem dX12_batch_108 : decode cX12_batch 108 = .ok (.iastore, 1) := by decide +kernel
theorem dX12_batch_109 : decode cX12_batch 109 = .ok (.aload_n 0, 1) := by decide +kernel
theorem dX12_batch_110 : decode cX12_batch 110 = .ok (.getfield 104, 3) := by decide +kernel
theorem dX12_batch_113 : decode cX12_batch 113 = .ok (.aload_n 0, 1) := by decide +kernel
theorem dX12_batch_114 : decode cX12_batch 114 = .ok (.getfield 313, 3) := by decide +kernel
theorem dX12_batch_117 : decode cX12_batch 117 = .ok (.iload_n 3, 1) := by decide +kernel
theorem dX12_batch_118 : decode cX12_batch 118 = .ok (.iastore, 1) := by decide +kernel
theorem dX12_batch_119 : decode cX12_batch 119 = .ok (.aload_n 0, 1) := by decide +kernel
theorem dX12_batch_120 : decode cX12_batch 120 = .ok (.getfield 107, 3) := by decide +kernel
theorem dX12_batch_123 : decode cX12_batch 123 = .ok (.aload_n 0, 1) := by decide +kernel
theorem dX12_batch_124 : decode cX12_batch 124 = .ok (.getfield 313, 3) := by decide +kernel
theorem dX12_batch_127 : decode cX12_batch 127 = .ok (.iload 4, 2) := by decide +kernel
theorem dX12_batch_129 : decode cX12_batch 129 = .ok (.iastore, 1) := by decide +kernel
theorem dX12_batch_130 : decode cX12_batch 130 = .ok (.aload_n 0, 1) := by decide +kernel
theorem dX12_batch_131 : decode cX12_batch 131 = .ok (.getfield 110, 3) := by decide +kernel
theorem dX12_batch_134 : decode cX12_batch 134 = .ok (.aload_n 0, 1) := by decide +kernel
theorem dX12_batch_135 : decode cX12_batch 135 = .ok (.getfield 313, 3) := by decide +kernel
theorem dX12_batch_138 : decode cX12_batch 138 = .ok (.iload 5, 2) := by decide +kernel
theorem dX12_batch_140 : decode cX12_batch 140 = .ok (.iastore, 1) := by decide +kernel
theorem dX12_batch_141 : decode cX12_batch 141 = .ok (.aload_n 0, 1) := by decide +kernel
theorem dX12_batch_142 : decode cX12_batch 142 = .ok (.dup, 1) := by decide +kernel
theorem dX12_batch_143 : decode cX12_batch 143 = .ok (.getfield 313, 3) := by decide +kernel
theorem dX12_batch_146 : decode cX12_batch 146 = .ok (.iconst 1, 1) := by decide +kernel
theorem dX12_batch_147 : decode cX12_batch 147 = .ok (.iadd, 1) := by decide +kernel
theorem dX12_batch_148 : decode cX12_batch 148 = .ok (.putfield 313, 3) := by decide +kernel
theorem dX12_batch_151 : decode cX12_batch 151 = .ok (.aload_n 0, 1) := by decide +kernel
theorem dX12_batch_152 : decode cX12_batch 152 = .ok (.getfield 313, 3) := by decide +kernel
theorem dX12_batch_155 : decode cX12_batch 155 = .ok (.iconst 1, 1) := by decide +kernel
theorem dX12_batch_156 : decode cX12_batch 156 = .ok (.isub, 1) := by decide +kernel
theorem dX12_batch_157 : decode cX12_batch 157 = .ok (.ireturn, 1) := by decide +kernel
theorem dX12_isSet_0 : decode cX12_isSet 0 = .ok (.iconst 0, 1) := by decide +kernel
theorem dX12_isSet_1 : decode cX12_isSet 1 = .ok (.istore_n 3, 1) := by decide +kernel
theorem dX12_isSet_2 : decode cX12_isSet 2 = .ok (.iconst 0, 1) := by decide +kernel
theorem dX12_isSet_3 : decode cX12_isSet 3 = .ok (.istore 4, 2) := by decide +kernel
theorem dX12_isSet_5 : decode cX12_isSet 5 = .ok (.iconst 0, 1) := by decide +kernel
theorem dX12_isSet_6 : decode cX12_isSet 6 = .ok (.istore 5, 2) := by decide +kernel
theorem dX12_isSet_8 : decode cX12_isSet 8 = .ok (.iload 5, 2) := by decide +kernel
theorem dX12_isSet_10 : decode cX12_isSet 10 = .ok (.aload_n 0, 1) := by decide +kernel
theorem dX12_isSet_11 : decode cX12_isSet 11 = .ok (.getfield 167, 3) := by decide +kernel
theorem dX12_isSet_14 : decode cX12_isSet 14 = .ok (.if_icmp .ge 49, 3) := by decide +kernel
theorem dX12_isSet_17 : decode cX12_isSet 17 = .ok (.iload_n 2, 1) := by decide +kernel
theorem dX12_isSet_18 : decode cX12_isSet 18 = .ok (.iload 5, 2) := by decide +kernel
theorem dX12_isSet_20 : decode cX12_isSet 20 = .ok (.ishr, 1) := by decide +kernel
theorem dX12_isSet_21 : decode cX12_isSet 21 = .ok (.iconst 1, 1) := by decide +kernel
theorem dX12_isSet_22 : decode cX12_isSet 22 = .ok (.iand, 1) := by decide +kernel
theorem dX12_isSet_23 : decode cX12_isSet 23 = .ok (.iconst 1, 1) := by decide +kernel
theorem dX12_isSet_24 : decode cX12_isSet 24 = .ok (.if_icmp .ne 33, 3) := by decide +kernel
theorem dX12_isSet_27 : decode cX12_isSet 27 = .ok (.iload_n 3, 1) := by decide +kernel
theorem dX12_isSet_28 : decode cX12_isSet 28 = .ok (.aload_n 0, 1) := by decide +kernel
theorem dX12_isSet_29 : decode cX12_isSet 29 = .ok (.getfield 28, 3) := by decide +kernel
theorem dX12_isSet_32 : decode cX12_isSet 32 = .ok (.iload 5, 2) := by decide +kernel
theorem dX12_isSet_34 : decode cX12_isSet 34 = .ok (.iaload, 1) := by decide +kernel
theorem dX12_isSet_35 : decode cX12_isSet 35 = .ok (.iadd, 1) := by decide +kernel
theorem dX12_isSet_36 : decode cX12_isSet 36 = .ok (.istore_n 3, 1) := by decide +kernel
theorem dX12_isSet_37 : decode cX12_isSet 37 = .ok (.iload 4, 2) := by decide +kernel
theorem dX12_isSet_39 : decode cX12_isSet 39 = .ok (.aload_n 0, 1) := by decide +kernel
theorem dX12_isSet_40 : decode cX12_isSet 40 = .ok (.getfield 28, 3) := by decide +kernel
theorem dX12_isSet_43 : decode cX12_isSet 43 = .ok (.iload 5, 2) := by decide +kernel
theorem dX12_isSet_45 : decode cX12_isSet 45 = .ok (.iaload, 1) := by decide +kernel
theorem dX12_isSet_46 : decode cX12_isSet 46 = .ok (.aload_n 0, 1) := by decide +kernel
theorem dX12_isSet_47 : decode cX12_isSet 47 = .ok (.getfield 34, 3) := by decide +kernel
theorem dX12_isSet_50 : decode cX12_isSet 50 = .ok (.iload 5, 2) := by decide +kernel
theorem dX12_isSet_52 : decode cX12_isSet 52 = .ok (.iaload, 1) := by decide +kernel
theorem dX12_isSet_53 : decode cX12_isSet 53 = .ok (.imul, 1) := by decide +kernel
theorem dX12_isSet_54 : decode cX12_isSet 54 = .ok (.iadd, 1) := by decide +kernel
theorem dX12_isSet_55 : decode cX12_isSet 55 = .ok (.istore 4, 2) := by decide +kernel
theorem dX12_isSet_57 : decode cX12_isSet 57 = .ok (.iinc 5 1, 3) := by decide +kernel
theorem dX12_isSet_60 : decode cX12_isSet 60 = .ok (.goto (-52), 3) := by decide +kernel
theorem dX12_isSet_63 : decode cX12_isSet 63 = .ok (.iload_n 3, 1) := by decide +kernel
theorem dX12_isSet_64 : decode cX12_isSet 64 = .ok (.aload_n 0, 1) := by decide +kernel
theorem dX12_isSet_65 : decode cX12_isSet 65 = .ok (.getfield 98, 3) := by decide +kernel
theorem dX12_isSet_68 : decode cX12_isSet 68 = .ok (.iload_n 1, 1) := by decide +kernel
theorem dX12_isSet_69 : decode cX12_isSet 69 = .ok (.iaload, 1) := by decide +kernel
theorem dX12_isSet_70 : decode cX12_isSet 70 = .ok (.invokestatic 260, 3) := by decide +kernel
theorem dX12_isSet_73 : decode cX12_isSet 73 = .ok (.aload_n 0, 1) := by decide +kernel
theorem dX12_isSet_74 : decode cX12_isSet 74 = .ok (.getfield 101, 3) := by decide +kernel
theorem dX12_isSet_77 : decode cX12_isSet 77 = .ok (.iload_n 1, 1) := by decide +kernel
theorem dX12_isSet_78 : decode cX12_isSet 78 = .ok (.iaload, 1) := by decide +kernel
theorem dX12_isSet_79 : decode cX12_isSet 79 = .ok (.if_icmp .gt 33, 3) := by decide +kernel
theorem dX12_isSet_82 : decode cX12_isSet 82 = .ok (.iload 4, 2) := by decide +kernel
theorem dX12_isSet_84 : decode cX12_isSet 84 = .ok (.aload_n 0, 1) := by decide +kernel
theorem dX12_isSet_85 : decode cX12_isSet 85 = .ok (.getfield 104, 3) := by decide +kernel
theorem dX12_isSet_88 : decode cX12_isSet 88 = .ok (.iload_n 1, 1) := by decide +kernel
theorem dX12_isSet_89 : decode cX12_isSet 89 = .ok (.iaload, 1) := by decide +kernel
theorem dX12_isSet_90 : decode cX12_isSet 90 = .ok (.iload_n 3, 1) := by decide +kernel
theorem dX12_isSet_91 : decode cX12_isSet 91 = .ok (.imul, 1) := by decide +kernel
theorem dX12_isSet_92 : decode cX12_isSet 92 = .ok (.if_icmp .lt 20, 3) := by decide +kernel
theorem dX12_isSet_95 : decode cX12_isSet 95 = .ok (.iload 4, 2) := by decide +kernel
theorem dX12_isSet_97 : decode cX12_isSet 97 = .ok (.aload_n 0, 1) := by decide +kernel
theorem dX12_isSet_98 : decode cX12_isSet 98 = .ok (.getfield 107, 3) := by decide +kernel
theorem dX12_isSet_101 : decode cX12_isSet 101 = .ok (.iload_n 1, 1) := by decide +kernel
theorem dX12_isSet_102 : decode cX12_isSet 102 = .ok (.iaload, 1) := by decide +kernel
theorem dX12_isSet_103 : decode cX12_isSet 103 = .ok (.iload_n 3, 1) := by decide +kernel
theorem dX12_isSet_104 : decode cX12_isSet 104 = .ok (.imul, 1) := by decide +kernel
theorem dX12_isSet_105 : decode cX12_isSet 105 = .ok (.if_icmp .gt 7, 3) := by decide +kernel
theorem dX12_isSet_108 : decode cX12_isSet 108 = .ok (.iconst 1, 1) := by decide +kernel
theorem dX12_isSet_109 : decode cX12_isSet 109 = .ok (.goto 4, 3) := by decide +kernel
theorem dX12_isSet_112 : decode cX12_isSet 112 = .ok (.iconst 0, 1) := by decide +kernel
theorem dX12_isSet_113 : decode cX12_isSet 113 = .ok (.ireturn, 1) := by decide +kernel
theorem dX12_findSets_0 : decode cX12_findSets 0 = .ok (.aload_n 0, 1) := by decide +kernel
theorem dX12_findSets_1 : decode cX12_findSets 1 = .ok (.iconst 0, 1) := by decide +kernel
theorem dX12_findSets_2 : decode cX12_findSets 2 = .ok (.putfield 323, 3) := by decide +kernel
theorem dX12_findSets_5 : decode cX12_findSets 5 = .ok (.aload_n 0, 1) := by decide +kernel
theorem dX12_findSets_6 : decode cX12_findSets 6 = .ok (.iconst (-1), 1) := by decide +kernel
theorem dX12_findSets_7 : decode cX12_findSets 7 = .ok (.putfield 326, 3) := by decide +kernel
theorem dX12_findSets_10 : decode cX12_findSets 10 = .ok (.aload_n 0, 1) := by decide +kernel
theorem dX12_findSets_11 : decode cX12_findSets 11 = .ok (.aload_n 0, 1) := by decide +kernel
theorem dX12_findSets_12 : decode cX12_findSets 12 = .ok (.getfield 110, 3) := by decide +kernel
theorem dX12_findSets_15 : decode cX12_findSets 15 = .ok (.iload_n 1, 1) := by decide +kernel
theorem dX12_findSets_16 : decode cX12_findSets 16 = .ok (.iaload, 1) := by decide +kernel
theorem dX12_findSets_17 : decode cX12_findSets 17 = .ok (.putfield 329, 3) := by decide +kernel
theorem dX12_findSets_20 : decode cX12_findSets 20 = .ok (.aload_n 0, 1) := by decide +kernel
theorem dX12_findSets_21 : decode cX12_findSets 21 = .ok (.iconst 0, 1) := by decide +kernel
theorem dX12_findSets_22 : decode cX12_findSets 22 = .ok (.putfield 332, 3) := by decide +kernel
theorem dX12_findSets_25 : decode cX12_findSets 25 = .ok (.iconst 0, 1) := by decide +kernel
theorem dX12_findSets_26 : decode cX12_findSets 26 = .ok (.istore_n 2, 1) := by decide +kernel
theorem dX12_findSets_27 : decode cX12_findSets 27 = .ok (.iconst 1, 1) := by decide +kernel
theorem dX12_findSets_28 : decode cX12_findSets 28 = .ok (.istore_n 3, 1) := by decide +kernel
theorem dX12_findSets_29 : decode cX12_findSets 29 = .ok (.iload_n 3, 1) := by decide +kernel
theorem dX12_findSets_30 : decode cX12_findSets 30 = .ok (.ifCond .eq 91, 3) := by decide +kernel
theorem dX12_findSets_33 : decode cX12_findSets 33 = .ok (.aload_n 0, 1) := by decide +kernel
theorem dX12_findSets_34 : decode cX12_findSets 34 = .ok (.iload_n 1, 1) := by decide +kernel
theorem dX12_findSets_35 : decode cX12_findSets 35 = .ok (.iload_n 2, 1) := by decide +kernel
theorem dX12_findSets_36 : decode cX12_findSets 36 = .ok (.invokevirtual 335, 3) := by decide +kernel
theorem dX12_findSets_39 : decode cX12_findSets 39 = .ok (.ifCond .eq 53, 3) := by decide +kernel
theorem dX12_findSets_42 : decode cX12_findSets 42 = .ok (.aload_n 0, 1) := by decide +kernel
theorem dX12_findSets_43 : decode cX12_findSets 43 = .ok (.dup, 1) := by decide +kernel
theorem dX12_findSets_44 : decode cX12_findSets 44 = .ok (.getfield 323, 3) := by decide +kernel
theorem dX12_findSets_47 : decode cX12_findSets 47 = .ok (.iconst 1, 1) := by decide +kernel
theorem dX12_findSets_48 : decode cX12_findSets 48 = .ok (.iadd, 1) := by decide +kernel
theorem dX12_findSets_49 : decode cX12_findSets 49 = .ok (.putfield 323, 3) := by decide +kernel
theorem dX12_findSets_52 : decode cX12_findSets 52 = .ok (.aload_n 0, 1) := by decide +kernel
theorem dX12_findSets_53 : decode cX12_findSets 53 = .ok (.aload_n 0, 1) := by decide +kernel
theorem dX12_findSets_54 : decode cX12_findSets 54 = .ok (.getfield 326, 3) := by decide +kernel
theorem dX12_findSets_57 : decode cX12_findSets 57 = .ok (.iconst (-1), 1) := by decide +kernel
theorem dX12_findSets_58 : decode cX12_findSets 58 = .ok (.if_icmp .ne 7, 3) := by decide +kernel
theorem dX12_findSets_61 : decode cX12_findSets 61 = .ok (.iload_n 2, 1) := by decide +kernel
theorem dX12_findSets_62 : decode cX12_findSets 62 = .ok (.goto 7, 3) := by decide +kernel
theorem dX12_findSets_65 : decode cX12_findSets 65 = .ok (.aload_n 0, 1) := by decide +kernel
theorem dX12_findSets_66 : decode cX12_findSets 66 = .ok (.getfield 326, 3) := by decide +kernel
theorem dX12_findSets_69 : decode cX12_findSets 69 = .ok (.putfield 326, 3) := by decide +kernel
theorem dX12_findSets_72 : decode cX12_findSets 72 = .ok (.aload_n 0, 1) := by decide +kernel
theorem dX12_findSets_73 : decode cX12_findSets 73 = .ok (.dup, 1) := by decide +kernel
theorem dX12_findSets_74 : decode cX12_findSets 74 = .ok (.getfield 329, 3) := by decide +kernel
theorem dX12_findSets_77 : decode cX12_findSets 77 = .ok (.iload_n 2, 1) := by decide +kernel
theorem dX12_findSets_78 : decode cX12_findSets 78 = .ok (.iand, 1) := by decide +kernel
theorem dX12_findSets_79 : decode cX12_findSets 79 = .ok (.putfield 329, 3) := by decide +kernel
theorem dX12_findSets_82 : decode cX12_findSets 82 = .ok (.aload_n 0, 1) := by decide +kernel
theorem dX12_findSets_83 : decode cX12_findSets 83 = .ok (.dup, 1) := by decide +kernel
theorem dX12_findSets_84 : decode cX12_findSets 84 = .ok (.getfield 332, 3) := by decide +kernel
theorem dX12_findSets_87 : decode cX12_findSets 87 = .ok (.iload_n 2, 1) := by decide +kernel
theorem dX12_findSets_88 : decode cX12_findSets 88 = .ok (.ior, 1) := by decide +kernel
theorem dX12_findSets_89 : decode cX12_findSets 89 = .ok (.putfield 332, 3) := by decide +kernel
theorem dX12_findSets_92 : decode cX12_findSets 92 = .ok (.iload_n 2, 1) := by decide +kernel
theorem dX12_findSets_93 : decode cX12_findSets 93 = .ok (.aload_n 0, 1) := by decide +kernel
theorem dX12_findSets_94 : decode cX12_findSets 94 = .ok (.getfield 110, 3) := by decide +kernel
theorem dX12_findSets_97 : decode cX12_findSets 97 = .ok (.iload_n 1, 1) := by decide +kernel
theorem dX12_findSets_98 : decode cX12_findSets 98 = .ok (.iaload, 1) := by decide +kernel
theorem dX12_findSets_99 : decode cX12_findSets 99 = .ok (.isub, 1) := by decide +kernel
theorem dX12_findSets_100 : decode cX12_findSets 100 = .ok (.aload_n 0, 1) := by decide +kernel
theorem dX12_findSets_101 : decode cX12_findSets 101 = .ok (.getfield 110, 3) := by decide +kernel
theorem dX12_findSets_104 : decode cX12_findSets 104 = .ok (.iload_n 1, 1) := by decide +kernel
theorem dX12_findSets_105 : decode cX12_findSets 105 = .ok (.iaload, 1) := by decide +kernel
theorem dX12_findSets_106 : decode cX12_findSets 106 = .ok (.iand, 1) := by decide +kernel
theorem dX12_findSets_107 : decode cX12_findSets 107 = .ok (.istore_n 2, 1) := by decide +kernel
theorem dX12_findSets_108 : decode cX12_findSets 108 = .ok (.iload_n 2, 1) := by decide +kernel
theorem dX12_findSets_109 : decode cX12_findSets 109 = .ok (.ifCond .eq 7, 3) := by decide +kernel
theorem dX12_findSets_112 : decode cX12_findSets 112 = .ok (.iconst 1, 1) := by decide +kernel
theorem dX12_findSets_113 : decode cX12_findSets 113 = .ok (.goto 4, 3) := by decide +kernel
theorem dX12_findSets_116 : decode cX12_findSets 116 = .ok (.iconst 0, 1) := by decide +kernel
theorem dX12_findSets_117 : decode cX12_findSets 117 = .ok (.istore_n 3, 1) := by decide +kernel
theorem dX12_findSets_118 : decode cX12_findSets 118 = .ok (.goto (-89), 3) := by decide +kernel
theorem dX12_findSets_121 : decode cX12_findSets 121 = .ok (.return_, 1) := by decide +kernel
theorem dX12_sets_0 : decode cX12_sets 0 = .ok (.aload_n 0, 1) := by decide +kernel
theorem dX12_sets_1 : decode cX12_sets 1 = .ok (.iload_n 1, 1) := by decide +kernel
theorem dX12_sets_2 : decode cX12_sets 2 = .ok (.invokevirtual 338, 3) := by decide +kernel
theorem dX12_sets_5 : decode cX12_sets 5 = .ok (.ifCond .eq 13, 3) := by decide +kernel
theorem dX12_sets_8 : decode cX12_sets 8 = .ok (.iload_n 2, 1) := by decide +kernel
theorem dX12_sets_9 : decode cX12_sets 9 = .ok (.i2l, 1) := by decide +kernel
theorem dX12_sets_10 : decode cX12_sets 10 = .ok (.lconst 0, 1) := by decide +kernel
theorem dX12_sets_11 : decode cX12_sets 11 = .ok (.lconst 1, 1) := by decide +kernel
theorem dX12_sets_12 : decode cX12_sets 12 = .ok (.invokestatic 139, 3) := by decide +kernel
theorem dX12_sets_15 : decode cX12_sets 15 = .ok (.ifCond .ne 6, 3) := by decide +kernel
theorem dX12_sets_18 : decode cX12_sets 18 = .ok (.bipush (-2), 2) := by decide +kernel
theorem dX12_sets_20 : decode cX12_sets 20 = .ok (.ireturn, 1) := by decide +kernel
theorem dX12_sets_21 : decode cX12_sets 21 = .ok (.aload_n 0, 1) := by decide +kernel
theorem dX12_sets_22 : decode cX12_sets 22 = .ok (.iload_n 1, 1) := by decide +kernel
theorem dX12_sets_23 : decode cX12_sets 23 = .ok (.invokevirtual 341, 3) := by decide +kernel
theorem dX12_sets_26 : decode cX12_sets 26 = .ok (.iload_n 2, 1) := by decide +kernel
theorem dX12_sets_27 : decode cX12_sets 27 = .ok (.ifCond .ne 10, 3) := by decide +kernel
theorem dX12_sets_30 : decode cX12_sets 30 = .ok (.aload_n 0, 1) := by decide +kernel
theorem dX12_sets_31 : decode cX12_sets 31 = .ok (.getfield 323, 3) := by decide +kernel
theorem dX12_sets_34 : decode cX12_sets 34 = .ok (.goto 7, 3) := by decide +kernel
theorem dX12_sets_37 : decode cX12_sets 37 = .ok (.aload_n 0, 1) := by decide +kernel
theorem dX12_sets_38 : decode cX12_sets 38 = .ok (.getfield 326, 3) := by decide +kernel
theorem dX12_sets_41 : decode cX12_sets 41 = .ok (.ireturn, 1) := by decide +kernel
theorem dX12_held_0 : decode cX12_held 0 = .ok (.aload_n 0, 1) := by decide +kernel
theorem dX12_held_1 : decode cX12_held 1 = .ok (.iload_n 1, 1) := by decide +kernel
theorem dX12_held_2 : decode cX12_held 2 = .ok (.invokevirtual 338, 3) := by decide +kernel
theorem dX12_held_5 : decode cX12_held 5 = .ok (.ifCond .eq 11, 3) := by decide +kernel
theorem dX12_held_8 : decode cX12_held 8 = .ok (.aload_n 0, 1) := by decide +kernel
theorem dX12_held_9 : decode cX12_held 9 = .ok (.iload_n 2, 1) := by decide +kernel
theorem dX12_held_10 : decode cX12_held 10 = .ok (.invokevirtual 190, 3) := by decide +kernel
theorem dX12_held_13 : decode cX12_held 13 = .ok (.ifCond .ne 6, 3) := by decide +kernel
theorem dX12_held_16 : decode cX12_held 16 = .ok (.bipush (-2), 2) := by decide +kernel
theorem dX12_held_18 : decode cX12_held 18 = .ok (.ireturn, 1) := by decide +kernel
theorem dX12_held_19 : decode cX12_held 19 = .ok (.aload_n 0, 1) := by decide +kernel
theorem dX12_held_20 : decode cX12_held 20 = .ok (.iload_n 1, 1) := by decide +kernel
theorem dX12_held_21 : decode cX12_held 21 = .ok (.invokevirtual 341, 3) := by decide +kernel
theorem dX12_held_24 : decode cX12_held 24 = .ok (.aload_n 0, 1) := by decide +kernel
theorem dX12_held_25 : decode cX12_held 25 = .ok (.getfield 323, 3) := by decide +kernel
theorem dX12_held_28 : decode cX12_held 28 = .ok (.ifCond .eq 14, 3) := by decide +kernel
theorem dX12_held_31 : decode cX12_held 31 = .ok (.aload_n 0, 1) := by decide +kernel
theorem dX12_held_32 : decode cX12_held 32 = .ok (.getfield 332, 3) := by decide +kernel
theorem dX12_held_35 : decode cX12_held 35 = .ok (.iload_n 2, 1) := by decide +kernel
theorem dX12_held_36 : decode cX12_held 36 = .ok (.ishr, 1) := by decide +kernel
theorem dX12_held_37 : decode cX12_held 37 = .ok (.iconst 1, 1) := by decide +kernel
theorem dX12_held_38 : decode cX12_held 38 = .ok (.iand, 1) := by decide +kernel
theorem dX12_held_39 : decode cX12_held 39 = .ok (.ifCond .ne 7, 3) := by decide +kernel
theorem dX12_held_42 : decode cX12_held 42 = .ok (.iconst 0, 1) := by decide +kernel
theorem dX12_held_43 : decode cX12_held 43 = .ok (.goto 20, 3) := by decide +kernel
theorem dX12_held_46 : decode cX12_held 46 = .ok (.aload_n 0, 1) := by decide +kernel
theorem dX12_held_47 : decode cX12_held 47 = .ok (.getfield 329, 3) := by decide +kernel
theorem dX12_held_50 : decode cX12_held 50 = .ok (.iload_n 2, 1) := by decide +kernel
theorem dX12_held_51 : decode cX12_held 51 = .ok (.ishr, 1) := by decide +kernel
theorem dX12_held_52 : decode cX12_held 52 = .ok (.iconst 1, 1) := by decide +kernel
theorem dX12_held_53 : decode cX12_held 53 = .ok (.iand, 1) := by decide +kernel
theorem dX12_held_54 : decode cX12_held 54 = .ok (.iconst 1, 1) := by decide +kernel
theorem dX12_held_55 : decode cX12_held 55 = .ok (.if_icmp .ne 7, 3) := by decide +kernel
theorem dX12_held_58 : decode cX12_held 58 = .ok (.iconst 2, 1) := by decide +kernel
theorem dX12_held_59 : decode cX12_held 59 = .ok (.goto 4, 3) := by decide +kernel
theorem dX12_held_62 : decode cX12_held 62 = .ok (.iconst 1, 1) := by decide +kernel
theorem dX12_held_63 : decode cX12_held 63 = .ok (.ireturn, 1) := by decide +kernel
theorem dX12_nextMelt_0 : decode cX12_nextMelt 0 = .ok (.iconst (-1), 1) := by decide +kernel
theorem dX12_nextMelt_1 : decode cX12_nextMelt 1 = .ok (.istore_n 2, 1) := by decide +kernel
theorem dX12_nextMelt_2 : decode cX12_nextMelt 2 = .ok (.iconst 0, 1) := by decide +kernel
theorem dX12_nextMelt_3 : decode cX12_nextMelt 3 = .ok (.istore_n 3, 1) := by decide +kernel
theorem dX12_nextMelt_4 : decode cX12_nextMelt 4 = .ok (.iload_n 3, 1) := by decide +kernel
theorem dX12_nextMelt_5 : decode cX12_nextMelt 5 = .ok (.aload_n 0, 1) := by decide +kernel
theorem dX12_nextMelt_6 : decode cX12_nextMelt 6 = .ok (.getfield 167, 3) := by decide +kernel
theorem dX12_nextMelt_9 : decode cX12_nextMelt 9 = .ok (.if_icmp .ge 93, 3) := by decide +kernel
theorem dX12_nextMelt_12 : decode cX12_nextMelt 12 = .ok (.aload_n 0, 1) := by decide +kernel
theorem dX12_nextMelt_13 : decode cX12_nextMelt 13 = .ok (.iload_n 3, 1) := by decide +kernel
theorem dX12_nextMelt_14 : decode cX12_nextMelt 14 = .ok (.invokevirtual 200, 3) := by decide +kernel
theorem dX12_nextMelt_17 : decode cX12_nextMelt 17 = .ok (.istore 4, 2) := by decide +kernel
theorem dX12_nextMelt_19 : decode cX12_nextMelt 19 = .ok (.aload_n 0, 1) := by decide +kernel
theorem dX12_nextMelt_20 : decode cX12_nextMelt 20 = .ok (.getfield 113, 3) := by decide +kernel
theorem dX12_nextMelt_23 : decode cX12_nextMelt 23 = .ok (.iload_n 3, 1) := by decide +kernel
theorem dX12_nextMelt_24 : decode cX12_nextMelt 24 = .ok (.iaload, 1) := by decide +kernel
theorem dX12_nextMelt_25 : decode cX12_nextMelt 25 = .ok (.iconst (-1), 1) := by decide +kernel
theorem dX12_nextMelt_26 : decode cX12_nextMelt 26 = .ok (.if_icmp .ne 70, 3) := by decide +kernel
theorem dX12_nextMelt_29 : decode cX12_nextMelt 29 = .ok (.iload 4, 2) := by decide +kernel
theorem dX12_nextMelt_31 : decode cX12_nextMelt 31 = .ok (.iconst 2, 1) := by decide +kernel
theorem dX12_nextMelt_32 : decode cX12_nextMelt 32 = .ok (.if_icmp .eq 9, 3) := by decide +kernel
theorem dX12_nextMelt_35 : decode cX12_nextMelt 35 = .ok (.iload 4, 2) := by decide +kernel
theorem dX12_nextMelt_37 : decode cX12_nextMelt 37 = .ok (.iconst 3, 1) := by decide +kernel
theorem dX12_nextMelt_38 : decode cX12_nextMelt 38 = .ok (.if_icmp .ne 58, 3) := by decide +kernel
theorem dX12_nextMelt_41 : decode cX12_nextMelt 41 = .ok (.iload_n 2, 1) := by decide +kernel
theorem dX12_nextMelt_42 : decode cX12_nextMelt 42 = .ok (.iconst (-1), 1) := by decide +kernel
theorem dX12_nextMelt_43 : decode cX12_nextMelt 43 = .ok (.if_icmp .ne 7, 3) := by decide +kernel
theorem dX12_nextMelt_46 : decode cX12_nextMelt 46 = .ok (.iconst (-1), 1) := by decide +kernel
theorem dX12_nextMelt_47 : decode cX12_nextMelt 47 = .ok (.goto 16, 3) := by decide +kernel
theorem dX12_nextMelt_50 : decode cX12_nextMelt 50 = .ok (.aload_n 0, 1) := by decide +kernel
theorem dX12_nextMelt_51 : decode cX12_nextMelt 51 = .ok (.iload_n 3, 1) := by decide +kernel
theorem dX12_nextMelt_52 : decode cX12_nextMelt 52 = .ok (.iload_n 1, 1) := by decide +kernel
theorem dX12_nextMelt_53 : decode cX12_nextMelt 53 = .ok (.invokevirtual 247, 3) := by decide +kernel
theorem dX12_nextMelt_56 : decode cX12_nextMelt 56 = .ok (.aload_n 0, 1) := by decide +kernel
theorem dX12_nextMelt_57 : decode cX12_nextMelt 57 = .ok (.iload_n 2, 1) := by decide +kernel
theorem dX12_nextMelt_58 : decode cX12_nextMelt 58 = .ok (.iload_n 1, 1) := by decide +kernel
theorem dX12_nextMelt_59 : decode cX12_nextMelt 59 = .ok (.invokevirtual 247, 3) := by decide +kernel
theorem dX12_nextMelt_62 : decode cX12_nextMelt 62 = .ok (.isub, 1) := by decide +kernel
theorem dX12_nextMelt_63 : decode cX12_nextMelt 63 = .ok (.istore 5, 2) := by decide +kernel
theorem dX12_nextMelt_65 : decode cX12_nextMelt 65 = .ok (.iload 5, 2) := by decide +kernel
theorem dX12_nextMelt_67 : decode cX12_nextMelt 67 = .ok (.ifCond .lt 23, 3) := by decide +kernel
theorem dX12_nextMelt_70 : decode cX12_nextMelt 70 = .ok (.iload 5, 2) := by decide +kernel
theorem dX12_nextMelt_72 : decode cX12_nextMelt 72 = .ok (.ifCond .ne 22, 3) := by decide +kernel
theorem dX12_nextMelt_75 : decode cX12_nextMelt 75 = .ok (.aload_n 0, 1) := by decide +kernel
theorem dX12_nextMelt_76 : decode cX12_nextMelt 76 = .ok (.getfield 28, 3) := by decide +kernel
theorem dX12_nextMelt_79 : decode cX12_nextMelt 79 = .ok (.iload_n 3, 1) := by decide +kernel
theorem dX12_nextMelt_80 : decode cX12_nextMelt 80 = .ok (.iaload, 1) := by decide +kernel
theorem dX12_nextMelt_81 : decode cX12_nextMelt 81 = .ok (.aload_n 0, 1) := by decide +kernel
theorem dX12_nextMelt_82 : decode cX12_nextMelt 82 = .ok (.getfield 28, 3) := by decide +kernel
theorem dX12_nextMelt_85 : decode cX12_nextMelt 85 = .ok (.iload_n 2, 1) := by decide +kernel
theorem dX12_nextMelt_86 : decode cX12_nextMelt 86 = .ok (.iaload, 1) := by decide +kernel
theorem dX12_nextMelt_87 : decode cX12_nextMelt 87 = .ok (.if_icmp .le 7, 3) := by decide +kernel
theorem dX12_nextMelt_90 : decode cX12_nextMelt 90 = .ok (.iload_n 3, 1) := by decide +kernel
theorem dX12_nextMelt_91 : decode cX12_nextMelt 91 = .ok (.goto 4, 3) := by decide +kernel
theorem dX12_nextMelt_94 : decode cX12_nextMelt 94 = .ok (.iload_n 2, 1) := by decide +kernel
theorem dX12_nextMelt_95 : decode cX12_nextMelt 95 = .ok (.istore_n 2, 1) := by decide +kernel
theorem dX12_nextMelt_96 : decode cX12_nextMelt 96 = .ok (.iinc 3 1, 3) := by decide +kernel
theorem dX12_nextMelt_99 : decode cX12_nextMelt 99 = .ok (.goto (-95), 3) := by decide +kernel
theorem dX12_nextMelt_102 : decode cX12_nextMelt 102 = .ok (.iload_n 2, 1) := by decide +kernel
theorem dX12_nextMelt_103 : decode cX12_nextMelt 103 = .ok (.ireturn, 1) := by decide +kernel
theorem dX12_needs_0 : decode cX12_needs 0 = .ok (.aload_n 0, 1) := by decide +kernel
theorem dX12_needs_1 : decode cX12_needs 1 = .ok (.invokevirtual 234, 3) := by decide +kernel
theorem dX12_needs_4 : decode cX12_needs 4 = .ok (.pop, 1) := by decide +kernel
theorem dX12_needs_5 : decode cX12_needs 5 = .ok (.iconst 0, 1) := by decide +kernel
theorem dX12_needs_6 : decode cX12_needs 6 = .ok (.istore_n 2, 1) := by decide +kernel
theorem dX12_needs_7 : decode cX12_needs 7 = .ok (.iload_n 2, 1) := by decide +kernel
theorem dX12_needs_8 : decode cX12_needs 8 = .ok (.aload_n 0, 1) := by decide +kernel
theorem dX12_needs_9 : decode cX12_needs 9 = .ok (.getfield 167, 3) := by decide +kernel
theorem dX12_needs_12 : decode cX12_needs 12 = .ok (.if_icmp .ge 16, 3) := by decide +kernel
theorem dX12_needs_15 : decode cX12_needs 15 = .ok (.aload_n 0, 1) := by decide +kernel
theorem dX12_needs_16 : decode cX12_needs 16 = .ok (.getfield 113, 3) := by decide +kernel
theorem dX12_needs_19 : decode cX12_needs 19 = .ok (.iload_n 2, 1) := by decide +kernel
theorem dX12_needs_20 : decode cX12_needs 20 = .ok (.iconst (-1), 1) := by decide +kernel
theorem dX12_needs_21 : decode cX12_needs 21 = .ok (.iastore, 1) := by decide +kernel
theorem dX12_needs_22 : decode cX12_needs 22 = .ok (.iinc 2 1, 3) := by decide +kernel
theorem dX12_needs_25 : decode cX12_needs 25 = .ok (.goto (-18), 3) := by decide +kernel
theorem dX12_needs_28 : decode cX12_needs 28 = .ok (.aload_n 0, 1) := by decide +kernel
theorem dX12_needs_29 : decode cX12_needs 29 = .ok (.lconst 0, 1) := by decide +kernel
theorem dX12_needs_30 : decode cX12_needs 30 = .ok (.putfield 345, 3) := by decide +kernel
theorem dX12_needs_33 : decode cX12_needs 33 = .ok (.aload_n 0, 1) := by decide +kernel
theorem dX12_needs_34 : decode cX12_needs 34 = .ok (.iconst (-1), 1) := by decide +kernel
theorem dX12_needs_35 : decode cX12_needs 35 = .ok (.putfield 349, 3) := by decide +kernel
theorem dX12_needs_38 : decode cX12_needs 38 = .ok (.aload_n 0, 1) := by decide +kernel
theorem dX12_needs_39 : decode cX12_needs 39 = .ok (.iconst 0, 1) := by decide +kernel
theorem dX12_needs_40 : decode cX12_needs 40 = .ok (.putfield 352, 3) := by decide +kernel
theorem dX12_needs_43 : decode cX12_needs 43 = .ok (.lconst 0, 1) := by decide +kernel
theorem dX12_needs_44 : decode cX12_needs 44 = .ok (.lstore_n 2, 1) := by decide +kernel
theorem dX12_needs_45 : decode cX12_needs 45 = .ok (.iconst 0, 1) := by decide +kernel
theorem dX12_needs_46 : decode cX12_needs 46 = .ok (.istore 4, 2) := by decide +kernel
theorem dX12_needs_48 : decode cX12_needs 48 = .ok (.iload 4, 2) := by decide +kernel
theorem dX12_needs_50 : decode cX12_needs 50 = .ok (.aload_n 0, 1) := by decide +kernel
theorem dX12_needs_51 : decode cX12_needs 51 = .ok (.getfield 13, 3) := by decide +kernel
theorem dX12_needs_54 : decode cX12_needs 54 = .ok (.iload_n 1, 1) := by decide +kernel
theorem dX12_needs_55 : decode cX12_needs 55 = .ok (.iaload, 1) := by decide +kernel
theorem dX12_needs_56 : decode cX12_needs 56 = .ok (.if_icmp .ge 171, 3) := by decide +kernel
theorem dX12_needs_59 : decode cX12_needs 59 = .ok (.aload_n 0, 1) := by decide +kernel
theorem dX12_needs_60 : decode cX12_needs 60 = .ok (.getfield 16, 3) := by decide +kernel
theorem dX12_needs_63 : decode cX12_needs 63 = .ok (.bipush 60, 2) := by decide +kernel
theorem dX12_needs_65 : decode cX12_needs 65 = .ok (.iload_n 1, 1) := by decide +kernel
theorem dX12_needs_66 : decode cX12_needs 66 = .ok (.imul, 1) := by decide +kernel
theorem dX12_needs_67 : decode cX12_needs 67 = .ok (.iload 4, 2) := by decide +kernel
theorem dX12_needs_69 : decode cX12_needs 69 = .ok (.iadd, 1) := by decide +kernel
theorem dX12_needs_70 : decode cX12_needs 70 = .ok (.iaload, 1) := by decide +kernel
theorem dX12_needs_71 : decode cX12_needs 71 = .ok (.ifCond .ge 7, 3) := by decide +kernel
theorem dX12_needs_74 : decode cX12_needs 74 = .ok (.lconst 0, 1) := by decide +kernel
theorem dX12_needs_75 : decode cX12_needs 75 = .ok (.goto 16, 3) := by decide +kernel
theorem dX12_needs_78 : decode cX12_needs 78 = .ok (.aload_n 0, 1) := by decide +kernel
theorem dX12_needs_79 : decode cX12_needs 79 = .ok (.getfield 16, 3) := by decide +kernel
theorem dX12_needs_82 : decode cX12_needs 82 = .ok (.bipush 60, 2) := by decide +kernel
theorem dX12_needs_84 : decode cX12_needs 84 = .ok (.iload_n 1, 1) := by decide +kernel
theorem dX12_needs_85 : decode cX12_needs 85 = .ok (.imul, 1) := by decide +kernel
theorem dX12_needs_86 : decode cX12_needs 86 = .ok (.iload 4, 2) := by decide +kernel
theorem dX12_needs_88 : decode cX12_needs 88 = .ok (.iadd, 1) := by decide +kernel
theorem dX12_needs_89 : decode cX12_needs 89 = .ok (.iaload, 1) := by decide +kernel
theorem dX12_needs_90 : decode cX12_needs 90 = .ok (.i2l, 1) := by decide +kernel
theorem dX12_needs_91 : decode cX12_needs 91 = .ok (.lstore 5, 2) := by decide +kernel
theorem dX12_needs_93 : decode cX12_needs 93 = .ok (.lload_n 2, 1) := by decide +kernel
theorem dX12_needs_94 : decode cX12_needs 94 = .ok (.lload 5, 2) := by decide +kernel
theorem dX12_needs_96 : decode cX12_needs 96 = .ok (.lcmp, 1) := by decide +kernel
theorem dX12_needs_97 : decode cX12_needs 97 = .ok (.ifCond .ge 12, 3) := by decide +kernel
theorem dX12_needs_100 : decode cX12_needs 100 = .ok (.aload_n 0, 1) := by decide +kernel
theorem dX12_needs_101 : decode cX12_needs 101 = .ok (.iload 4, 2) := by decide +kernel
theorem dX12_needs_103 : decode cX12_needs 103 = .ok (.invokevirtual 355, 3) := by decide +kernel
theorem dX12_needs_106 : decode cX12_needs 106 = .ok (.goto 4, 3) := by decide +kernel
theorem dX12_needs_109 : decode cX12_needs 109 = .ok (.iconst (-1), 1) := by decide +kernel
theorem dX12_needs_110 : decode cX12_needs 110 = .ok (.istore 7, 2) := by decide +kernel
theorem dX12_needs_112 : decode cX12_needs 112 = .ok (.iload 7, 2) := by decide +kernel
theorem dX12_needs_114 : decode cX12_needs 114 = .ok (.iconst (-1), 1) := by decide +kernel
theorem dX12_needs_115 : decode cX12_needs 115 = .ok (.if_icmp .eq 55, 3) := by decide +kernel
theorem dX12_needs_118 : decode cX12_needs 118 = .ok (.aload_n 0, 1) := by decide +kernel
theorem dX12_needs_119 : decode cX12_needs 119 = .ok (.getfield 113, 3) := by decide +kernel
theorem dX12_needs_122 : decode cX12_needs 122 = .ok (.iload 7, 2) := by decide +kernel
theorem dX12_needs_124 : decode cX12_needs 124 = .ok (.iload 4, 2) := by decide +kernel
theorem dX12_needs_126 : decode cX12_needs 126 = .ok (.iastore, 1) := by decide +kernel
theorem dX12_needs_127 : decode cX12_needs 127 = .ok (.aload_n 0, 1) := by decide +kernel
theorem dX12_needs_128 : decode cX12_needs 128 = .ok (.dup, 1) := by decide +kernel
theorem dX12_needs_129 : decode cX12_needs 129 = .ok (.getfield 352, 3) := by decide +kernel
theorem dX12_needs_132 : decode cX12_needs 132 = .ok (.iconst 1, 1) := by decide +kernel
theorem dX12_needs_133 : decode cX12_needs 133 = .ok (.iadd, 1) := by decide +kernel
theorem dX12_needs_134 : decode cX12_needs 134 = .ok (.putfield 352, 3) := by decide +kernel
theorem dX12_needs_137 : decode cX12_needs 137 = .ok (.lload_n 2, 1) := by decide +kernel
theorem dX12_needs_138 : decode cX12_needs 138 = .ok (.aload_n 0, 1) := by decide +kernel
theorem dX12_needs_139 : decode cX12_needs 139 = .ok (.getfield 28, 3) := by decide +kernel
theorem dX12_needs_142 : decode cX12_needs 142 = .ok (.iload 7, 2) := by decide +kernel
theorem dX12_needs_144 : decode cX12_needs 144 = .ok (.iaload, 1) := by decide +kernel
theorem dX12_needs_145 : decode cX12_needs 145 = .ok (.i2l, 1) := by decide +kernel
theorem dX12_needs_146 : decode cX12_needs 146 = .ok (.ladd, 1) := by decide +kernel
theorem dX12_needs_147 : decode cX12_needs 147 = .ok (.lstore_n 2, 1) := by decide +kernel
theorem dX12_needs_148 : decode cX12_needs 148 = .ok (.lload_n 2, 1) := by decide +kernel
theorem dX12_needs_149 : decode cX12_needs 149 = .ok (.lload 5, 2) := by decide +kernel
theorem dX12_needs_151 : decode cX12_needs 151 = .ok (.lcmp, 1) := by decide +kernel
theorem dX12_needs_152 : decode cX12_needs 152 = .ok (.ifCond .ge 12, 3) := by decide +kernel
theorem dX12_needs_155 : decode cX12_needs 155 = .ok (.aload_n 0, 1) := by decide +kernel
theorem dX12_needs_156 : decode cX12_needs 156 = .ok (.iload 4, 2) := by decide +kernel
theorem dX12_needs_158 : decode cX12_needs 158 = .ok (.invokevirtual 355, 3) := by decide +kernel
theorem dX12_needs_161 : decode cX12_needs 161 = .ok (.goto 4, 3) := by decide +kernel
theorem dX12_needs_164 : decode cX12_needs 164 = .ok (.iconst (-1), 1) := by decide +kernel
theorem dX12_needs_165 : decode cX12_needs 165 = .ok (.istore 7, 2) := by decide +kernel
theorem dX12_needs_167 : decode cX12_needs 167 = .ok (.goto (-55), 3) := by decide +kernel
theorem dX12_needs_170 : decode cX12_needs 170 = .ok (.lload_n 2, 1) := by decide +kernel
theorem dX12_needs_171 : decode cX12_needs 171 = .ok (.lload 5, 2) := by decide +kernel
theorem dX12_needs_173 : decode cX12_needs 173 = .ok (.lcmp, 1) := by decide +kernel
theorem dX12_needs_174 : decode cX12_needs 174 = .ok (.ifCond .ge 42, 3) := by decide +kernel
theorem dX12_needs_177 : decode cX12_needs 177 = .ok (.aload_n 0, 1) := by decide +kernel
theorem dX12_needs_178 : decode cX12_needs 178 = .ok (.dup, 1) := by decide +kernel
theorem dX12_needs_179 : decode cX12_needs 179 = .ok (.getfield 345, 3) := by decide +kernel
theorem dX12_needs_182 : decode cX12_needs 182 = .ok (.lload 5, 2) := by decide +kernel
theorem dX12_needs_184 : decode cX12_needs 184 = .ok (.lload_n 2, 1) := by decide +kernel
theorem dX12_needs_185 : decode cX12_needs 185 = .ok (.lsub, 1) := by decide +kernel
theorem dX12_needs_186 : decode cX12_needs 186 = .ok (.ladd, 1) := by decide +kernel
theorem dX12_needs_187 : decode cX12_needs 187 = .ok (.putfield 345, 3) := by decide +kernel
theorem dX12_needs_190 : decode cX12_needs 190 = .ok (.aload_n 0, 1) := by decide +kernel
theorem dX12_needs_191 : decode cX12_needs 191 = .ok (.aload_n 0, 1) := by decide +kernel
theorem dX12_needs_192 : decode cX12_needs 192 = .ok (.getfield 349, 3) := by decide +kernel
theorem dX12_needs_195 : decode cX12_needs 195 = .ok (.iconst (-1), 1) := by decide +kernel
theorem dX12_needs_196 : decode cX12_needs 196 = .ok (.if_icmp .ne 8, 3) := by decide +kernel
theorem dX12_needs_199 : decode cX12_needs 199 = .ok (.iload 4, 2) := by decide +kernel
theorem dX12_needs_201 : decode cX12_needs 201 = .ok (.goto 7, 3) := by decide +kernel
theorem dX12_needs_204 : decode cX12_needs 204 = .ok (.aload_n 0, 1) := by decide +kernel
theorem dX12_needs_205 : decode cX12_needs 205 = .ok (.getfield 349, 3) := by decide +kernel
theorem dX12_needs_208 : decode cX12_needs 208 = .ok (.putfield 349, 3) := by decide +kernel
theorem dX12_needs_211 : decode cX12_needs 211 = .ok (.lconst 0, 1) := by decide +kernel
theorem dX12_needs_212 : decode cX12_needs 212 = .ok (.lstore_n 2, 1) := by decide +kernel
theorem dX12_needs_213 : decode cX12_needs 213 = .ok (.goto 8, 3) := by decide +kernel
theorem dX12_needs_216 : decode cX12_needs 216 = .ok (.lload_n 2, 1) := by decide +kernel
theorem dX12_needs_217 : decode cX12_needs 217 = .ok (.lload 5, 2) := by decide +kernel
theorem dX12_needs_219 : decode cX12_needs 219 = .ok (.lsub, 1) := by decide +kernel
theorem dX12_needs_220 : decode cX12_needs 220 = .ok (.lstore_n 2, 1) := by decide +kernel
theorem dX12_needs_221 : decode cX12_needs 221 = .ok (.iinc 4 1, 3) := by decide +kernel
theorem dX12_needs_224 : decode cX12_needs 224 = .ok (.goto (-176), 3) := by decide +kernel
theorem dX12_needs_227 : decode cX12_needs 227 = .ok (.return_, 1) := by decide +kernel
theorem dX12_melts_0 : decode cX12_melts 0 = .ok (.iload_n 1, 1) := by decide +kernel
theorem dX12_melts_1 : decode cX12_melts 1 = .ok (.invokestatic 143, 3) := by decide +kernel
theorem dX12_melts_4 : decode cX12_melts 4 = .ok (.ifCond .eq 11, 3) := by decide +kernel
theorem dX12_melts_7 : decode cX12_melts 7 = .ok (.aload_n 0, 1) := by decide +kernel
theorem dX12_melts_8 : decode cX12_melts 8 = .ok (.iload_n 2, 1) := by decide +kernel
theorem dX12_melts_9 : decode cX12_melts 9 = .ok (.invokevirtual 190, 3) := by decide +kernel
theorem dX12_melts_12 : decode cX12_melts 12 = .ok (.ifCond .ne 6, 3) := by decide +kernel
theorem dX12_melts_15 : decode cX12_melts 15 = .ok (.bipush (-2), 2) := by decide +kernel
theorem dX12_melts_17 : decode cX12_melts 17 = .ok (.ireturn, 1) := by decide +kernel
theorem dX12_melts_18 : decode cX12_melts 18 = .ok (.aload_n 0, 1) := by decide +kernel
theorem dX12_melts_19 : decode cX12_melts 19 = .ok (.getfield 7, 3) := by decide +kernel
theorem dX12_melts_22 : decode cX12_melts 22 = .ok (.iload_n 1, 1) := by decide +kernel
theorem dX12_melts_23 : decode cX12_melts 23 = .ok (.iaload, 1) := by decide +kernel
theorem dX12_melts_24 : decode cX12_melts 24 = .ok (.ifCond .ge 9, 3) := by decide +kernel
theorem dX12_melts_27 : decode cX12_melts 27 = .ok (.aload_n 0, 1) := by decide +kernel
theorem dX12_melts_28 : decode cX12_melts 28 = .ok (.iconst 1, 1) := by decide +kernel
theorem dX12_melts_29 : decode cX12_melts 29 = .ok (.invokevirtual 149, 3) := by decide +kernel
theorem dX12_melts_32 : decode cX12_melts 32 = .ok (.ireturn, 1) := by decide +kernel
theorem dX12_melts_33 : decode cX12_melts 33 = .ok (.aload_n 0, 1) := by decide +kernel
theorem dX12_melts_34 : decode cX12_melts 34 = .ok (.iload_n 1, 1) := by decide +kernel
theorem dX12_melts_35 : decode cX12_melts 35 = .ok (.invokevirtual 358, 3) := by decide +kernel
theorem dX12_melts_38 : decode cX12_melts 38 = .ok (.aload_n 0, 1) := by decide +kernel
theorem dX12_melts_39 : decode cX12_melts 39 = .ok (.getfield 113, 3) := by decide +kernel
theorem dX12_melts_42 : decode cX12_melts 42 = .ok (.iload_n 2, 1) := by decide +kernel
theorem dX12_melts_43 : decode cX12_melts 43 = .ok (.iaload, 1) := by decide +kernel
theorem dX12_melts_44 : decode cX12_melts 44 = .ok (.ireturn, 1) := by decide +kernel
theorem dX12_shorts_0 : decode cX12_shorts 0 = .ok (.iload_n 1, 1) := by decide +kernel
theorem dX12_shorts_1 : decode cX12_shorts 1 = .ok (.invokestatic 143, 3) := by decide +kernel
theorem dX12_shorts_4 : decode cX12_shorts 4 = .ok (.ifCond .eq 15, 3) := by decide +kernel
theorem dX12_shorts_7 : decode cX12_shorts 7 = .ok (.iload_n 2, 1) := by decide +kernel
theorem dX12_shorts_8 : decode cX12_shorts 8 = .ok (.i2l, 1) := by decide +kernel
theorem dX12_shorts_9 : decode cX12_shorts 9 = .ok (.lconst 0, 1) := by decide +kernel
theorem dX12_shorts_10 : decode cX12_shorts 10 = .ok (.ldc2_w 147, 3) := by decide +kernel
theorem dX12_shorts_13 : decode cX12_shorts 13 = .ok (.invokestatic 139, 3) := by decide +kernel
theorem dX12_shorts_16 : decode cX12_shorts 16 = .ok (.ifCond .ne 6, 3) := by decide +kernel
theorem dX12_shorts_19 : decode cX12_shorts 19 = .ok (.bipush (-2), 2) := by decide +kernel
theorem dX12_shorts_21 : decode cX12_shorts 21 = .ok (.ireturn, 1) := by decide +kernel
theorem dX12_shorts_22 : decode cX12_shorts 22 = .ok (.aload_n 0, 1) := by decide +kernel
theorem dX12_shorts_23 : decode cX12_shorts 23 = .ok (.getfield 7, 3) := by decide +kernel
theorem dX12_shorts_26 : decode cX12_shorts 26 = .ok (.iload_n 1, 1) := by decide +kernel
theorem dX12_shorts_27 : decode cX12_shorts 27 = .ok (.iaload, 1) := by decide +kernel
theorem dX12_shorts_28 : decode cX12_shorts 28 = .ok (.ifCond .ge 9, 3) := by decide +kernel
theorem dX12_shorts_31 : decode cX12_shorts 31 = .ok (.aload_n 0, 1) := by decide +kernel
theorem dX12_shorts_32 : decode cX12_shorts 32 = .ok (.iconst 1, 1) := by decide +kernel
theorem dX12_shorts_33 : decode cX12_shorts 33 = .ok (.invokevirtual 149, 3) := by decide +kernel
theorem dX12_shorts_36 : decode cX12_shorts 36 = .ok (.ireturn, 1) := by decide +kernel
theorem dX12_shorts_37 : decode cX12_shorts 37 = .ok (.aload_n 0, 1) := by decide +kernel
theorem dX12_shorts_38 : decode cX12_shorts 38 = .ok (.iload_n 1, 1) := by decide +kernel
theorem dX12_shorts_39 : decode cX12_shorts 39 = .ok (.invokevirtual 358, 3) := by decide +kernel
theorem dX12_shorts_42 : decode cX12_shorts 42 = .ok (.iload_n 2, 1) := by decide +kernel
theorem dX12_shorts_43 : decode cX12_shorts 43 = .ok (.ifCond .ne 28, 3) := by decide +kernel
theorem dX12_shorts_46 : decode cX12_shorts 46 = .ok (.aload_n 0, 1) := by decide +kernel
theorem dX12_shorts_47 : decode cX12_shorts 47 = .ok (.getfield 345, 3) := by decide +kernel
theorem dX12_shorts_50 : decode cX12_shorts 50 = .ok (.ldc2_w 361, 3) := by decide +kernel
theorem dX12_shorts_53 : decode cX12_shorts 53 = .ok (.lcmp, 1) := by decide +kernel
theorem dX12_shorts_54 : decode cX12_shorts 54 = .ok (.ifCond .le 9, 3) := by decide +kernel
theorem dX12_shorts_57 : decode cX12_shorts 57 = .ok (.ldc2_w 361, 3) := by decide +kernel
theorem dX12_shorts_60 : decode cX12_shorts 60 = .ok (.goto 7, 3) := by decide +kernel
theorem dX12_shorts_63 : decode cX12_shorts 63 = .ok (.aload_n 0, 1) := by decide +kernel
theorem dX12_shorts_64 : decode cX12_shorts 64 = .ok (.getfield 345, 3) := by decide +kernel
theorem dX12_shorts_67 : decode cX12_shorts 67 = .ok (.l2i, 1) := by decide +kernel
theorem dX12_shorts_68 : decode cX12_shorts 68 = .ok (.goto 19, 3) := by decide +kernel
theorem dX12_shorts_71 : decode cX12_shorts 71 = .ok (.iload_n 2, 1) := by decide +kernel
theorem dX12_shorts_72 : decode cX12_shorts 72 = .ok (.iconst 1, 1) := by decide +kernel
theorem dX12_shorts_73 : decode cX12_shorts 73 = .ok (.if_icmp .ne 10, 3) := by decide +kernel
theorem dX12_shorts_76 : decode cX12_shorts 76 = .ok (.aload_n 0, 1) := by decide +kernel
theorem dX12_shorts_77 : decode cX12_shorts 77 = .ok (.getfield 349, 3) := by decide +kernel
theorem dX12_shorts_80 : decode cX12_shorts 80 = .ok (.goto 7, 3) := by decide +kernel
theorem dX12_shorts_83 : decode cX12_shorts 83 = .ok (.aload_n 0, 1) := by decide +kernel
theorem dX12_shorts_84 : decode cX12_shorts 84 = .ok (.getfield 352, 3) := by decide +kernel
theorem dX12_shorts_87 : decode cX12_shorts 87 = .ok (.ireturn, 1) := by decide +kernel
theorem dX12_send_0 : decode cX12_send 0 = .ok (.aload_n 0, 1) := by decide +kernel
theorem dX12_send_1 : decode cX12_send 1 = .ok (.iload_n 1, 1) := by decide +kernel
theorem dX12_send_2 : decode cX12_send 2 = .ok (.invokevirtual 190, 3) := by decide +kernel
theorem dX12_send_5 : decode cX12_send 5 = .ok (.ifCond .eq 43, 3) := by decide +kernel
theorem dX12_send_8 : decode cX12_send 8 = .ok (.iload_n 2, 1) := by decide +kernel
theorem dX12_send_9 : decode cX12_send 9 = .ok (.i2l, 1) := by decide +kernel
theorem dX12_send_10 : decode cX12_send 10 = .ok (.lconst 0, 1) := by decide +kernel
theorem dX12_send_11 : decode cX12_send 11 = .ok (.lconst 1, 1) := by decide +kernel
theorem dX12_send_12 : decode cX12_send 12 = .ok (.invokestatic 139, 3) := by decide +kernel
theorem dX12_send_15 : decode cX12_send 15 = .ok (.ifCond .eq 33, 3) := by decide +kernel
theorem dX12_send_18 : decode cX12_send 18 = .ok (.iload_n 3, 1) := by decide +kernel
theorem dX12_send_19 : decode cX12_send 19 = .ok (.i2l, 1) := by decide +kernel
theorem dX12_send_20 : decode cX12_send 20 = .ok (.iload_n 2, 1) := by decide +kernel
theorem dX12_send_21 : decode cX12_send 21 = .ok (.ifCond .ne 7, 3) := by decide +kernel
theorem dX12_send_24 : decode cX12_send 24 = .ok (.lconst 1, 1) := by decide +kernel
theorem dX12_send_25 : decode cX12_send 25 = .ok (.goto 4, 3) := by decide +kernel
theorem dX12_send_28 : decode cX12_send 28 = .ok (.lconst 0, 1) := by decide +kernel
theorem dX12_send_29 : decode cX12_send 29 = .ok (.iload_n 2, 1) := by decide +kernel
theorem dX12_send_30 : decode cX12_send 30 = .ok (.ifCond .ne 9, 3) := by decide +kernel
theorem dX12_send_33 : decode cX12_send 33 = .ok (.ldc2_w 256, 3) := by decide +kernel
theorem dX12_send_36 : decode cX12_send 36 = .ok (.goto 6, 3) := by decide +kernel
theorem dX12_send_39 : decode cX12_send 39 = .ok (.ldc2_w 258, 3) := by decide +kernel
theorem dX12_send_42 : decode cX12_send 42 = .ok (.invokestatic 139, 3) := by decide +kernel
theorem dX12_send_45 : decode cX12_send 45 = .ok (.ifCond .ne 6, 3) := by decide +kernel
theorem dX12_send_48 : decode cX12_send 48 = .ok (.bipush (-2), 2) := by decide +kernel
theorem dX12_send_50 : decode cX12_send 50 = .ok (.ireturn, 1) := by decide +kernel
theorem dX12_send_51 : decode cX12_send 51 = .ok (.iload_n 2, 1) := by decide +kernel
theorem dX12_send_52 : decode cX12_send 52 = .ok (.ifCond .ne 12, 3) := by decide +kernel
theorem dX12_send_55 : decode cX12_send 55 = .ok (.aload_n 0, 1) := by decide +kernel
theorem dX12_send_56 : decode cX12_send 56 = .ok (.getfield 43, 3) := by decide +kernel
theorem dX12_send_59 : decode cX12_send 59 = .ok (.iload_n 1, 1) := by decide +kernel
theorem dX12_send_60 : decode cX12_send 60 = .ok (.iaload, 1) := by decide +kernel
theorem dX12_send_61 : decode cX12_send 61 = .ok (.goto 9, 3) := by decide +kernel
theorem dX12_send_64 : decode cX12_send 64 = .ok (.aload_n 0, 1) := by decide +kernel
theorem dX12_send_65 : decode cX12_send 65 = .ok (.getfield 46, 3) := by decide +kernel
theorem dX12_send_68 : decode cX12_send 68 = .ok (.iload_n 1, 1) := by decide +kernel
theorem dX12_send_69 : decode cX12_send 69 = .ok (.iaload, 1) := by decide +kernel
theorem dX12_send_70 : decode cX12_send 70 = .ok (.istore 4, 2) := by decide +kernel
theorem dX12_send_72 : decode cX12_send 72 = .ok (.iload_n 2, 1) := by decide +kernel
theorem dX12_send_73 : decode cX12_send 73 = .ok (.ifCond .ne 13, 3) := by decide +kernel
theorem dX12_send_76 : decode cX12_send 76 = .ok (.aload_n 0, 1) := by decide +kernel
theorem dX12_send_77 : decode cX12_send 77 = .ok (.getfield 43, 3) := by decide +kernel
theorem dX12_send_80 : decode cX12_send 80 = .ok (.iload_n 1, 1) := by decide +kernel
theorem dX12_send_81 : decode cX12_send 81 = .ok (.iload_n 3, 1) := by decide +kernel
theorem dX12_send_82 : decode cX12_send 82 = .ok (.iastore, 1) := by decide +kernel
theorem dX12_send_83 : decode cX12_send 83 = .ok (.goto 10, 3) := by decide +kernel
theorem dX12_send_86 : decode cX12_send 86 = .ok (.aload_n 0, 1) := by decide +kernel
theorem dX12_send_87 : decode cX12_send 87 = .ok (.getfield 46, 3) := by decide +kernel
theorem dX12_send_90 : decode cX12_send 90 = .ok (.iload_n 1, 1) := by decide +kernel
theorem dX12_send_91 : decode cX12_send 91 = .ok (.iload_n 3, 1) := by decide +kernel
theorem dX12_send_92 : decode cX12_send 92 = .ok (.iastore, 1) := by decide +kernel
theorem dX12_send_93 : decode cX12_send 93 = .ok (.iload 4, 2) := by decide +kernel
theorem dX12_send_95 : decode cX12_send 95 = .ok (.ireturn, 1) := by decide +kernel
theorem dX12_inTime_0 : decode cX12_inTime 0 = .ok (.iconst 1, 1) := by decide +kernel
theorem dX12_inTime_1 : decode cX12_inTime 1 = .ok (.istore_n 3, 1) := by decide +kernel
theorem dX12_inTime_2 : decode cX12_inTime 2 = .ok (.iconst 0, 1) := by decide +kernel
theorem dX12_inTime_3 : decode cX12_inTime 3 = .ok (.istore 4, 2) := by decide +kernel
theorem dX12_inTime_5 : decode cX12_inTime 5 = .ok (.iload 4, 2) := by decide +kernel
theorem dX12_inTime_7 : decode cX12_inTime 7 = .ok (.iload_n 2, 1) := by decide +kernel
theorem dX12_inTime_8 : decode cX12_inTime 8 = .ok (.if_icmp .ge 121, 3) := by decide +kernel
theorem dX12_inTime_11 : decode cX12_inTime 11 = .ok (.iconst 0, 1) := by decide +kernel
theorem dX12_inTime_12 : decode cX12_inTime 12 = .ok (.istore 5, 2) := by decide +kernel
theorem dX12_inTime_14 : decode cX12_inTime 14 = .ok (.iconst 0, 1) := by decide +kernel
theorem dX12_inTime_15 : decode cX12_inTime 15 = .ok (.istore 6, 2) := by decide +kernel
theorem dX12_inTime_17 : decode cX12_inTime 17 = .ok (.iload 6, 2) := by decide +kernel
theorem dX12_inTime_19 : decode cX12_inTime 19 = .ok (.iload_n 2, 1) := by decide +kernel
theorem dX12_inTime_20 : decode cX12_inTime 20 = .ok (.if_icmp .ge 67, 3) := by decide +kernel
theorem dX12_inTime_23 : decode cX12_inTime 23 = .ok (.iload 5, 2) := by decide +kernel
theorem dX12_inTime_25 : decode cX12_inTime 25 = .ok (.iload_n 1, 1) := by decide +kernel
theorem dX12_inTime_26 : decode cX12_inTime 26 = .ok (.iload 6, 2) := by decide +kernel
theorem dX12_inTime_28 : decode cX12_inTime 28 = .ok (.ishr, 1) := by decide +kernel
theorem dX12_inTime_29 : decode cX12_inTime 29 = .ok (.iconst 1, 1) := by decide +kernel
theorem dX12_inTime_30 : decode cX12_inTime 30 = .ok (.iand, 1) := by decide +kernel
theorem dX12_inTime_31 : decode cX12_inTime 31 = .ok (.iconst 1, 1) := by decide +kernel
theorem dX12_inTime_32 : decode cX12_inTime 32 = .ok (.if_icmp .ne 45, 3) := by decide +kernel
theorem dX12_inTime_35 : decode cX12_inTime 35 = .ok (.aload_n 0, 1) := by decide +kernel
theorem dX12_inTime_36 : decode cX12_inTime 36 = .ok (.getfield 46, 3) := by decide +kernel
theorem dX12_inTime_39 : decode cX12_inTime 39 = .ok (.aload_n 0, 1) := by decide +kernel
theorem dX12_inTime_40 : decode cX12_inTime 40 = .ok (.getfield 116, 3) := by decide +kernel
theorem dX12_inTime_43 : decode cX12_inTime 43 = .ok (.iload 6, 2) := by decide +kernel
theorem dX12_inTime_45 : decode cX12_inTime 45 = .ok (.iaload, 1) := by decide +kernel
theorem dX12_inTime_46 : decode cX12_inTime 46 = .ok (.iaload, 1) := by decide +kernel
theorem dX12_inTime_47 : decode cX12_inTime 47 = .ok (.aload_n 0, 1) := by decide +kernel
theorem dX12_inTime_48 : decode cX12_inTime 48 = .ok (.getfield 46, 3) := by decide +kernel
theorem dX12_inTime_51 : decode cX12_inTime 51 = .ok (.aload_n 0, 1) := by decide +kernel
theorem dX12_inTime_52 : decode cX12_inTime 52 = .ok (.getfield 116, 3) := by decide +kernel
theorem dX12_inTime_55 : decode cX12_inTime 55 = .ok (.iload 4, 2) := by decide +kernel
theorem dX12_inTime_57 : decode cX12_inTime 57 = .ok (.iaload, 1) := by decide +kernel
theorem dX12_inTime_58 : decode cX12_inTime 58 = .ok (.iaload, 1) := by decide +kernel
theorem dX12_inTime_59 : decode cX12_inTime 59 = .ok (.if_icmp .gt 18, 3) := by decide +kernel
theorem dX12_inTime_62 : decode cX12_inTime 62 = .ok (.aload_n 0, 1) := by decide +kernel
theorem dX12_inTime_63 : decode cX12_inTime 63 = .ok (.getfield 43, 3) := by decide +kernel
theorem dX12_inTime_66 : decode cX12_inTime 66 = .ok (.aload_n 0, 1) := by decide +kernel
theorem dX12_inTime_67 : decode cX12_inTime 67 = .ok (.getfield 116, 3) := by decide +kernel
theorem dX12_inTime_70 : decode cX12_inTime 70 = .ok (.iload 6, 2) := by decide +kernel
theorem dX12_inTime_72 : decode cX12_inTime 72 = .ok (.iaload, 1) := by decide +kernel
theorem dX12_inTime_73 : decode cX12_inTime 73 = .ok (.iaload, 1) := by decide +kernel
theorem dX12_inTime_74 : decode cX12_inTime 74 = .ok (.goto 4, 3) := by decide +kernel
theorem dX12_inTime_77 : decode cX12_inTime 77 = .ok (.iconst 0, 1) := by decide +kernel
theorem dX12_inTime_78 : decode cX12_inTime 78 = .ok (.iadd, 1) := by decide +kernel
theorem dX12_inTime_79 : decode cX12_inTime 79 = .ok (.istore 5, 2) := by decide +kernel
theorem dX12_inTime_81 : decode cX12_inTime 81 = .ok (.iinc 6 1, 3) := by decide +kernel
theorem dX12_inTime_84 : decode cX12_inTime 84 = .ok (.goto (-67), 3) := by decide +kernel
theorem dX12_inTime_87 : decode cX12_inTime 87 = .ok (.iload_n 3, 1) := by decide +kernel
theorem dX12_inTime_88 : decode cX12_inTime 88 = .ok (.ifCond .eq 33, 3) := by decide +kernel
theorem dX12_inTime_91 : decode cX12_inTime 91 = .ok (.iload_n 1, 1) := by decide +kernel
theorem dX12_inTime_92 : decode cX12_inTime 92 = .ok (.iload 4, 2) := by decide +kernel
theorem dX12_inTime_94 : decode cX12_inTime 94 = .ok (.ishr, 1) := by decide +kernel
theorem dX12_inTime_95 : decode cX12_inTime 95 = .ok (.iconst 1, 1) := by decide +kernel
theorem dX12_inTime_96 : decode cX12_inTime 96 = .ok (.iand, 1) := by decide +kernel
theorem dX12_inTime_97 : decode cX12_inTime 97 = .ok (.ifCond .eq 20, 3) := by decide +kernel
theorem dX12_inTime_100 : decode cX12_inTime 100 = .ok (.iload 5, 2) := by decide +kernel
theorem dX12_inTime_102 : decode cX12_inTime 102 = .ok (.aload_n 0, 1) := by decide +kernel
theorem dX12_inTime_103 : decode cX12_inTime 103 = .ok (.getfield 46, 3) := by decide +kernel
theorem dX12_inTime_106 : decode cX12_inTime 106 = .ok (.aload_n 0, 1) := by decide +kernel
theorem dX12_inTime_107 : decode cX12_inTime 107 = .ok (.getfield 116, 3) := by decide +kernel
theorem dX12_inTime_110 : decode cX12_inTime 110 = .ok (.iload 4, 2) := by decide +kernel
theorem dX12_inTime_112 : decode cX12_inTime 112 = .ok (.iaload, 1) := by decide +kernel
theorem dX12_inTime_113 : decode cX12_inTime 113 = .ok (.iaload, 1) := by decide +kernel
theorem dX12_inTime_114 : decode cX12_inTime 114 = .ok (.if_icmp .gt 7, 3) := by decide +kernel
theorem dX12_inTime_117 : decode cX12_inTime 117 = .ok (.iconst 1, 1) := by decide +kernel
theorem dX12_inTime_118 : decode cX12_inTime 118 = .ok (.goto 4, 3) := by decide +kernel
theorem dX12_inTime_121 : decode cX12_inTime 121 = .ok (.iconst 0, 1) := by decide +kernel
theorem dX12_inTime_122 : decode cX12_inTime 122 = .ok (.istore_n 3, 1) := by decide +kernel
theorem dX12_inTime_123 : decode cX12_inTime 123 = .ok (.iinc 4 1, 3) := by decide +kernel
theorem dX12_inTime_126 : decode cX12_inTime 126 = .ok (.goto (-121), 3) := by decide +kernel
theorem dX12_inTime_129 : decode cX12_inTime 129 = .ok (.iload_n 3, 1) := by decide +kernel
theorem dX12_inTime_130 : decode cX12_inTime 130 = .ok (.ireturn, 1) := by decide +kernel
theorem dX12_weightOf_0 : decode cX12_weightOf 0 = .ok (.iconst 0, 1) := by decide +kernel
theorem dX12_weightOf_1 : decode cX12_weightOf 1 = .ok (.istore_n 3, 1) := by decide +kernel
theorem dX12_weightOf_2 : decode cX12_weightOf 2 = .ok (.iconst 0, 1) := by decide +kernel
theorem dX12_weightOf_3 : decode cX12_weightOf 3 = .ok (.istore 4, 2) := by decide +kernel
theorem dX12_weightOf_5 : decode cX12_weightOf 5 = .ok (.iload 4, 2) := by decide +kernel
theorem dX12_weightOf_7 : decode cX12_weightOf 7 = .ok (.iload_n 2, 1) := by decide +kernel
theorem dX12_weightOf_8 : decode cX12_weightOf 8 = .ok (.if_icmp .ge 38, 3) := by decide +kernel
theorem dX12_weightOf_11 : decode cX12_weightOf 11 = .ok (.iload_n 3, 1) := by decide +kernel
theorem dX12_weightOf_12 : decode cX12_weightOf 12 = .ok (.iload_n 1, 1) := by decide +kernel
theorem dX12_weightOf_13 : decode cX12_weightOf 13 = .ok (.iload 4, 2) := by decide +kernel
theorem dX12_weightOf_15 : decode cX12_weightOf 15 = .ok (.ishr, 1) := by decide +kernel
theorem dX12_weightOf_16 : decode cX12_weightOf 16 = .ok (.iconst 1, 1) := by decide +kernel
theorem dX12_weightOf_17 : decode cX12_weightOf 17 = .ok (.iand, 1) := by decide +kernel
theorem dX12_weightOf_18 : decode cX12_weightOf 18 = .ok (.iconst 1, 1) := by decide +kernel
theorem dX12_weightOf_19 : decode cX12_weightOf 19 = .ok (.if_icmp .ne 18, 3) := by decide +kernel
theorem dX12_weightOf_22 : decode cX12_weightOf 22 = .ok (.aload_n 0, 1) := by decide +kernel
theorem dX12_weightOf_23 : decode cX12_weightOf 23 = .ok (.getfield 28, 3) := by decide +kernel
theorem dX12_weightOf_26 : decode cX12_weightOf 26 = .ok (.aload_n 0, 1) := by decide +kernel
theorem dX12_weightOf_27 : decode cX12_weightOf 27 = .ok (.getfield 116, 3) := by decide +kernel
theorem dX12_weightOf_30 : decode cX12_weightOf 30 = .ok (.iload 4, 2) := by decide +kernel
theorem dX12_weightOf_32 : decode cX12_weightOf 32 = .ok (.iaload, 1) := by decide +kernel
theorem dX12_weightOf_33 : decode cX12_weightOf 33 = .ok (.iaload, 1) := by decide +kernel
theorem dX12_weightOf_34 : decode cX12_weightOf 34 = .ok (.goto 4, 3) := by decide +kernel
theorem dX12_weightOf_37 : decode cX12_weightOf 37 = .ok (.iconst 0, 1) := by decide +kernel
theorem dX12_weightOf_38 : decode cX12_weightOf 38 = .ok (.iadd, 1) := by decide +kernel
theorem dX12_weightOf_39 : decode cX12_weightOf 39 = .ok (.istore_n 3, 1) := by decide +kernel
theorem dX12_weightOf_40 : decode cX12_weightOf 40 = .ok (.iinc 4 1, 3) := by decide +kernel
theorem dX12_weightOf_43 : decode cX12_weightOf 43 = .ok (.goto (-38), 3) := by decide +kernel
theorem dX12_weightOf_46 : decode cX12_weightOf 46 = .ok (.iload_n 3, 1) := by decide +kernel
theorem dX12_weightOf_47 : decode cX12_weightOf 47 = .ok (.ireturn, 1) := by decide +kernel
theorem dX12_sentNow_0 : decode cX12_sentNow 0 = .ok (.iconst 0, 1) := by decide +kernel
theorem dX12_sentNow_1 : decode cX12_sentNow 1 = .ok (.istore_n 2, 1) := by decide +kernel
theorem dX12_sentNow_2 : decode cX12_sentNow 2 = .ok (.iconst 0, 1) := by decide +kernel
theorem dX12_sentNow_3 : decode cX12_sentNow 3 = .ok (.istore_n 3, 1) := by decide +kernel
theorem dX12_sentNow_4 : decode cX12_sentNow 4 = .ok (.iload_n 3, 1) := by decide +kernel
theorem dX12_sentNow_5 : decode cX12_sentNow 5 = .ok (.aload_n 0, 1) := by decide +kernel
theorem dX12_sentNow_6 : decode cX12_sentNow 6 = .ok (.getfield 167, 3) := by decide +kernel
theorem dX12_sentNow_9 : decode cX12_sentNow 9 = .ok (.if_icmp .ge 34, 3) := by decide +kernel
theorem dX12_sentNow_12 : decode cX12_sentNow 12 = .ok (.iload_n 2, 1) := by decide +kernel
theorem dX12_sentNow_13 : decode cX12_sentNow 13 = .ok (.bipush 10, 2) := by decide +kernel
theorem dX12_sentNow_15 : decode cX12_sentNow 15 = .ok (.if_icmp .ge 28, 3) := by decide +kernel
theorem dX12_sentNow_18 : decode cX12_sentNow 18 = .ok (.aload_n 0, 1) := by decide +kernel
theorem dX12_sentNow_19 : decode cX12_sentNow 19 = .ok (.iload_n 3, 1) := by decide +kernel
theorem dX12_sentNow_20 : decode cX12_sentNow 20 = .ok (.invokevirtual 200, 3) := by decide +kernel
theorem dX12_sentNow_23 : decode cX12_sentNow 23 = .ok (.iconst 3, 1) := by decide +kernel
theorem dX12_sentNow_24 : decode cX12_sentNow 24 = .ok (.if_icmp .ne 13, 3) := by decide +kernel
theorem dX12_sentNow_27 : decode cX12_sentNow 27 = .ok (.aload_n 0, 1) := by decide +kernel
theorem dX12_sentNow_28 : decode cX12_sentNow 28 = .ok (.getfield 116, 3) := by decide +kernel
theorem dX12_sentNow_31 : decode cX12_sentNow 31 = .ok (.iload_n 2, 1) := by decide +kernel
theorem dX12_sentNow_32 : decode cX12_sentNow 32 = .ok (.iload_n 3, 1) := by decide +kernel
theorem dX12_sentNow_33 : decode cX12_sentNow 33 = .ok (.iastore, 1) := by decide +kernel
theorem dX12_sentNow_34 : decode cX12_sentNow 34 = .ok (.iinc 2 1, 3) := by decide +kernel
theorem dX12_sentNow_37 : decode cX12_sentNow 37 = .ok (.iinc 3 1, 3) := by decide +kernel
theorem dX12_sentNow_40 : decode cX12_sentNow 40 = .ok (.goto (-36), 3) := by decide +kernel
theorem dX12_sentNow_43 : decode cX12_sentNow 43 = .ok (.iconst 0, 1) := by decide +kernel
theorem dX12_sentNow_44 : decode cX12_sentNow 44 = .ok (.istore_n 3, 1) := by decide +kernel
theorem dX12_sentNow_45 : decode cX12_sentNow 45 = .ok (.iconst 1, 1) := by decide +kernel
theorem dX12_sentNow_46 : decode cX12_sentNow 46 = .ok (.istore 4, 2) := by decide +kernel
theorem dX12_sentNow_48 : decode cX12_sentNow 48 = .ok (.iload 4, 2) := by decide +kernel
theorem dX12_sentNow_50 : decode cX12_sentNow 50 = .ok (.iconst 1, 1) := by decide +kernel
theorem dX12_sentNow_51 : decode cX12_sentNow 51 = .ok (.iload_n 2, 1) := by decide +kernel
theorem dX12_sentNow_52 : decode cX12_sentNow 52 = .ok (.ishl, 1) := by decide +kernel
theorem dX12_sentNow_53 : decode cX12_sentNow 53 = .ok (.if_icmp .ge 60, 3) := by decide +kernel
theorem dX12_sentNow_56 : decode cX12_sentNow 56 = .ok (.iload 4, 2) := by decide +kernel
theorem dX12_sentNow_58 : decode cX12_sentNow 58 = .ok (.invokestatic 272, 3) := by decide +kernel
theorem dX12_sentNow_61 : decode cX12_sentNow 61 = .ok (.iload_n 3, 1) := by decide +kernel
theorem dX12_sentNow_62 : decode cX12_sentNow 62 = .ok (.invokestatic 272, 3) := by decide +kernel
theorem dX12_sentNow_65 : decode cX12_sentNow 65 = .ok (.isub, 1) := by decide +kernel
theorem dX12_sentNow_66 : decode cX12_sentNow 66 = .ok (.istore 5, 2) := by decide +kernel
theorem dX12_sentNow_68 : decode cX12_sentNow 68 = .ok (.iload 5, 2) := by decide +kernel
theorem dX12_sentNow_70 : decode cX12_sentNow 70 = .ok (.ifCond .gt 24, 3) := by decide +kernel
theorem dX12_sentNow_73 : decode cX12_sentNow 73 = .ok (.iload 5, 2) := by decide +kernel
theorem dX12_sentNow_75 : decode cX12_sentNow 75 = .ok (.ifCond .ne 32, 3) := by decide +kernel
theorem dX12_sentNow_78 : decode cX12_sentNow 78 = .ok (.aload_n 0, 1) := by decide +kernel
theorem dX12_sentNow_79 : decode cX12_sentNow 79 = .ok (.iload 4, 2) := by decide +kernel
theorem dX12_sentNow_81 : decode cX12_sentNow 81 = .ok (.iload_n 2, 1) := by decide +kernel
theorem dX12_sentNow_82 : decode cX12_sentNow 82 = .ok (.invokevirtual 363, 3) := by decide +kernel
theorem dX12_sentNow_85 : decode cX12_sentNow 85 = .ok (.aload_n 0, 1) := by decide +kernel
theorem dX12_sentNow_86 : decode cX12_sentNow 86 = .ok (.iload_n 3, 1) := by decide +kernel
theorem dX12_sentNow_87 : decode cX12_sentNow 87 = .ok (.iload_n 2, 1) := by decide +kernel
theorem dX12_sentNow_88 : decode cX12_sentNow 88 = .ok (.invokevirtual 363, 3) := by decide +kernel
theorem dX12_sentNow_91 : decode cX12_sentNow 91 = .ok (.if_icmp .le 16, 3) := by decide +kernel
theorem dX12_sentNow_94 : decode cX12_sentNow 94 = .ok (.aload_n 0, 1) := by decide +kernel
theorem dX12_sentNow_95 : decode cX12_sentNow 95 = .ok (.iload 4, 2) := by decide +kernel
theorem dX12_sentNow_97 : decode cX12_sentNow 97 = .ok (.iload_n 2, 1) := by decide +kernel
theorem dX12_sentNow_98 : decode cX12_sentNow 98 = .ok (.invokevirtual 366, 3) := by decide +kernel
theorem dX12_sentNow_101 : decode cX12_sentNow 101 = .ok (.ifCond .eq 6, 3) := by decide +kernel
theorem dX12_sentNow_104 : decode cX12_sentNow 104 = .ok (.iload 4, 2) := by decide +kernel
theorem dX12_sentNow_106 : decode cX12_sentNow 106 = .ok (.istore_n 3, 1) := by decide +kernel
theorem dX12_sentNow_107 : decode cX12_sentNow 107 = .ok (.iinc 4 1, 3) := by decide +kernel
theorem dX12_sentNow_110 : decode cX12_sentNow 110 = .ok (.goto (-62), 3) := by decide +kernel
theorem dX12_sentNow_113 : decode cX12_sentNow 113 = .ok (.iconst 0, 1) := by decide +kernel
theorem dX12_sentNow_114 : decode cX12_sentNow 114 = .ok (.istore 4, 2) := by decide +kernel
theorem dX12_sentNow_116 : decode cX12_sentNow 116 = .ok (.iconst 0, 1) := by decide +kernel
theorem dX12_sentNow_117 : decode cX12_sentNow 117 = .ok (.istore 5, 2) := by decide +kernel
theorem dX12_sentNow_119 : decode cX12_sentNow 119 = .ok (.iload 5, 2) := by decide +kernel
theorem dX12_sentNow_121 : decode cX12_sentNow 121 = .ok (.iload_n 2, 1) := by decide +kernel
theorem dX12_sentNow_122 : decode cX12_sentNow 122 = .ok (.if_icmp .ge 37, 3) := by decide +kernel
theorem dX12_sentNow_125 : decode cX12_sentNow 125 = .ok (.iload 4, 2) := by decide +kernel
theorem dX12_sentNow_127 : decode cX12_sentNow 127 = .ok (.iload_n 3, 1) := by decide +kernel
theorem dX12_sentNow_128 : decode cX12_sentNow 128 = .ok (.iload 5, 2) := by decide +kernel
theorem dX12_sentNow_130 : decode cX12_sentNow 130 = .ok (.ishr, 1) := by decide +kernel
theorem dX12_sentNow_131 : decode cX12_sentNow 131 = .ok (.iconst 1, 1) := by decide +kernel
theorem dX12_sentNow_132 : decode cX12_sentNow 132 = .ok (.iand, 1) := by decide +kernel
theorem dX12_sentNow_133 : decode cX12_sentNow 133 = .ok (.iconst 1, 1) := by decide +kernel
theorem dX12_sentNow_134 : decode cX12_sentNow 134 = .ok (.if_icmp .ne 15, 3) := by decide +kernel
theorem dX12_sentNow_137 : decode cX12_sentNow 137 = .ok (.iconst 1, 1) := by decide +kernel
theorem dX12_sentNow_138 : decode cX12_sentNow 138 = .ok (.aload_n 0, 1) := by decide +kernel
theorem dX12_sentNow_139 : decode cX12_sentNow 139 = .ok (.getfield 116, 3) := by decide +kernel
theorem dX12_sentNow_142 : decode cX12_sentNow 142 = .ok (.iload 5, 2) := by decide +kernel
theorem dX12_sentNow_144 : decode cX12_sentNow 144 = .ok (.iaload, 1) := by decide +kernel
theorem dX12_sentNow_145 : decode cX12_sentNow 145 = .ok (.ishl, 1) := by decide +kernel
theorem dX12_sentNow_146 : decode cX12_sentNow 146 = .ok (.goto 4, 3) := by decide +kernel
theorem dX12_sentNow_149 : decode cX12_sentNow 149 = .ok (.iconst 0, 1) := by decide +kernel
theorem dX12_sentNow_150 : decode cX12_sentNow 150 = .ok (.ior, 1) := by decide +kernel
theorem dX12_sentNow_151 : decode cX12_sentNow 151 = .ok (.istore 4, 2) := by decide +kernel
theorem dX12_sentNow_153 : decode cX12_sentNow 153 = .ok (.iinc 5 1, 3) := by decide +kernel
theorem dX12_sentNow_156 : decode cX12_sentNow 156 = .ok (.goto (-37), 3) := by decide +kernel
theorem dX12_sentNow_159 : decode cX12_sentNow 159 = .ok (.iload_n 1, 1) := by decide +kernel
theorem dX12_sentNow_160 : decode cX12_sentNow 160 = .ok (.ifCond .ne 8, 3) := by decide +kernel
theorem dX12_sentNow_163 : decode cX12_sentNow 163 = .ok (.iload 4, 2) := by decide +kernel
theorem dX12_sentNow_165 : decode cX12_sentNow 165 = .ok (.goto 21, 3) := by decide +kernel
theorem dX12_sentNow_168 : decode cX12_sentNow 168 = .ok (.iload_n 1, 1) := by decide +kernel
theorem dX12_sentNow_169 : decode cX12_sentNow 169 = .ok (.iconst 1, 1) := by decide +kernel
theorem dX12_sentNow_170 : decode cX12_sentNow 170 = .ok (.if_icmp .ne 10, 3) := by decide +kernel
theorem dX12_sentNow_173 : decode cX12_sentNow 173 = .ok (.iload_n 3, 1) := by decide +kernel
theorem dX12_sentNow_174 : decode cX12_sentNow 174 = .ok (.invokestatic 272, 3) := by decide +kernel
theorem dX12_sentNow_177 : decode cX12_sentNow 177 = .ok (.goto 9, 3) := by decide +kernel
theorem dX12_sentNow_180 : decode cX12_sentNow 180 = .ok (.aload_n 0, 1) := by decide +kernel
theorem dX12_sentNow_181 : decode cX12_sentNow 181 = .ok (.iload_n 3, 1) := by decide +kernel
theorem dX12_sentNow_182 : decode cX12_sentNow 182 = .ok (.iload_n 2, 1) := by decide +kernel
theorem dX12_sentNow_183 : decode cX12_sentNow 183 = .ok (.invokevirtual 363, 3) := by decide +kernel
theorem dX12_sentNow_186 : decode cX12_sentNow 186 = .ok (.ireturn, 1) := by decide +kernel
theorem dX12_sent_0 : decode cX12_sent 0 = .ok (.iload_n 1, 1) := by decide +kernel
theorem dX12_sent_1 : decode cX12_sent 1 = .ok (.i2l, 1) := by decide +kernel
theorem dX12_sent_2 : decode cX12_sent 2 = .ok (.lconst 0, 1) := by decide +kernel
theorem dX12_sent_3 : decode cX12_sent 3 = .ok (.ldc2_w 147, 3) := by decide +kernel
theorem dX12_sent_6 : decode cX12_sent 6 = .ok (.invokestatic 139, 3) := by decide +kernel
theorem dX12_sent_9 : decode cX12_sent 9 = .ok (.ifCond .eq 11, 3) := by decide +kernel
theorem dX12_sent_12 : decode cX12_sent 12 = .ok (.aload_n 0, 1) := by decide +kernel
theorem dX12_sent_13 : decode cX12_sent 13 = .ok (.iload_n 1, 1) := by decide +kernel
theorem dX12_sent_14 : decode cX12_sent 14 = .ok (.invokevirtual 369, 3) := by decide +kernel
theorem dX12_sent_17 : decode cX12_sent 17 = .ok (.goto 5, 3) := by decide +kernel
theorem dX12_sent_20 : decode cX12_sent 20 = .ok (.bipush (-2), 2) := by decide +kernel
theorem dX12_sent_22 : decode cX12_sent 22 = .ok (.ireturn, 1) := by decide +kernel
theorem dX12_claim_0 : decode cX12_claim 0 = .ok (.aload_n 0, 1) := by decide +kernel
theorem dX12_claim_1 : decode cX12_claim 1 = .ok (.iload_n 1, 1) := by decide +kernel
theorem dX12_claim_2 : decode cX12_claim 2 = .ok (.invokevirtual 175, 3) := by decide +kernel
theorem dX12_claim_5 : decode cX12_claim 5 = .ok (.ifCond .eq 31, 3) := by decide +kernel
theorem dX12_claim_8 : decode cX12_claim 8 = .ok (.aload_n 0, 1) := by decide +kernel
theorem dX12_claim_9 : decode cX12_claim 9 = .ok (.iload_n 2, 1) := by decide +kernel
theorem dX12_claim_10 : decode cX12_claim 10 = .ok (.invokevirtual 190, 3) := by decide +kernel
theorem dX12_claim_13 : decode cX12_claim 13 = .ok (.ifCond .eq 23, 3) := by decide +kernel
theorem dX12_claim_16 : decode cX12_claim 16 = .ok (.iload_n 3, 1) := by decide +kernel
theorem dX12_claim_17 : decode cX12_claim 17 = .ok (.i2l, 1) := by decide +kernel
theorem dX12_claim_18 : decode cX12_claim 18 = .ok (.lconst 0, 1) := by decide +kernel
theorem dX12_claim_19 : decode cX12_claim 19 = .ok (.ldc2_w 193, 3) := by decide +kernel
theorem dX12_claim_22 : decode cX12_claim 22 = .ok (.invokestatic 139, 3) := by decide +kernel
theorem dX12_claim_25 : decode cX12_claim 25 = .ok (.ifCond .eq 11, 3) := by decide +kernel
theorem dX12_claim_28 : decode cX12_claim 28 = .ok (.iload 4, 2) := by decide +kernel
theorem dX12_claim_30 : decode cX12_claim 30 = .ok (.invokestatic 244, 3) := by decide +kernel
theorem dX12_claim_33 : decode cX12_claim 33 = .ok (.ifCond .ne 6, 3) := by decide +kernel
theorem dX12_claim_36 : decode cX12_claim 36 = .ok (.bipush (-2), 2) := by decide +kernel
theorem dX12_claim_38 : decode cX12_claim 38 = .ok (.ireturn, 1) := by decide +kernel
theorem dX12_claim_39 : decode cX12_claim 39 = .ok (.aload_n 0, 1) := by decide +kernel
theorem dX12_claim_40 : decode cX12_claim 40 = .ok (.getfield 372, 3) := by decide +kernel
theorem dX12_claim_43 : decode cX12_claim 43 = .ok (.bipush 30, 2) := by decide +kernel
theorem dX12_claim_45 : decode cX12_claim 45 = .ok (.if_icmp .ne 6, 3) := by decide +kernel
theorem dX12_claim_48 : decode cX12_claim 48 = .ok (.bipush (-4), 2) := by decide +kernel
theorem dX12_claim_50 : decode cX12_claim 50 = .ok (.ireturn, 1) := by decide +kernel
theorem dX12_claim_51 : decode cX12_claim 51 = .ok (.aload_n 0, 1) := by decide +kernel
theorem dX12_claim_52 : decode cX12_claim 52 = .ok (.getfield 119, 3) := by decide +kernel
theorem dX12_claim_55 : decode cX12_claim 55 = .ok (.aload_n 0, 1) := by decide +kernel
theorem dX12_claim_56 : decode cX12_claim 56 = .ok (.getfield 372, 3) := by decide +kernel
theorem dX12_claim_59 : decode cX12_claim 59 = .ok (.iload_n 1, 1) := by decide +kernel
theorem dX12_claim_60 : decode cX12_claim 60 = .ok (.iastore, 1) := by decide +kernel
theorem dX12_claim_61 : decode cX12_claim 61 = .ok (.aload_n 0, 1) := by decide +kernel
theorem dX12_claim_62 : decode cX12_claim 62 = .ok (.getfield 122, 3) := by decide +kernel
theorem dX12_claim_65 : decode cX12_claim 65 = .ok (.aload_n 0, 1) := by decide +kernel
theorem dX12_claim_66 : decode cX12_claim 66 = .ok (.getfield 372, 3) := by decide +kernel
theorem dX12_claim_69 : decode cX12_claim 69 = .ok (.iload_n 2, 1) := by decide +kernel
theorem dX12_claim_70 : decode cX12_claim 70 = .ok (.iastore, 1) := by decide +kernel
theorem dX12_claim_71 : decode cX12_claim 71 = .ok (.aload_n 0, 1) := by decide +kernel
theorem dX12_claim_72 : decode cX12_claim 72 = .ok (.getfield 125, 3) := by decide +kernel
theorem dX12_claim_75 : decode cX12_claim 75 = .ok (.aload_n 0, 1) := by decide +kernel
theorem dX12_claim_76 : decode cX12_claim 76 = .ok (.getfield 372, 3) := by decide +kernel
theorem dX12_claim_79 : decode cX12_claim 79 = .ok (.iload_n 3, 1) := by decide +kernel
theorem dX12_claim_80 : decode cX12_claim 80 = .ok (.iastore, 1) := by decide +kernel
theorem dX12_claim_81 : decode cX12_claim 81 = .ok (.aload_n 0, 1) := by decide +kernel
theorem dX12_claim_82 : decode cX12_claim 82 = .ok (.getfield 128, 3) := by decide +kernel
theorem dX12_claim_85 : decode cX12_claim 85 = .ok (.aload_n 0, 1) := by decide +kernel
theorem dX12_claim_86 : decode cX12_claim 86 = .ok (.getfield 372, 3) := by decide +kernel
theorem dX12_claim_89 : decode cX12_claim 89 = .ok (.iload 4, 2) := by decide +kernel
theorem dX12_claim_91 : decode cX12_claim 91 = .ok (.iastore, 1) := by decide +kernel
theorem dX12_claim_92 : decode cX12_claim 92 = .ok (.aload_n 0, 1) := by decide +kernel
theorem dX12_claim_93 : decode cX12_claim 93 = .ok (.dup, 1) := by decide +kernel
theorem dX12_claim_94 : decode cX12_claim 94 = .ok (.getfield 372, 3) := by decide +kernel
theorem dX12_claim_97 : decode cX12_claim 97 = .ok (.iconst 1, 1) := by decide +kernel
theorem dX12_claim_98 : decode cX12_claim 98 = .ok (.iadd, 1) := by decide +kernel
theorem dX12_claim_99 : decode cX12_claim 99 = .ok (.putfield 372, 3) := by decide +kernel
theorem dX12_claim_102 : decode cX12_claim 102 = .ok (.aload_n 0, 1) := by decide +kernel
theorem dX12_claim_103 : decode cX12_claim 103 = .ok (.getfield 372, 3) := by decide +kernel
theorem dX12_claim_106 : decode cX12_claim 106 = .ok (.ireturn, 1) := by decide +kernel
theorem dX12_rank_0 : decode cX12_rank 0 = .ok (.iload_n 1, 1) := by decide +kernel
theorem dX12_rank_1 : decode cX12_rank 1 = .ok (.i2l, 1) := by decide +kernel
theorem dX12_rank_2 : decode cX12_rank 2 = .ok (.lconst 0, 1) := by decide +kernel
theorem dX12_rank_3 : decode cX12_rank 3 = .ok (.ldc2_w 193, 3) := by decide +kernel
theorem dX12_rank_6 : decode cX12_rank 6 = .ok (.invokestatic 139, 3) := by decide +kernel
theorem dX12_rank_9 : decode cX12_rank 9 = .ok (.ifCond .eq 15, 3) := by decide +kernel
theorem dX12_rank_12 : decode cX12_rank 12 = .ok (.iload_n 2, 1) := by decide +kernel
theorem dX12_rank_13 : decode cX12_rank 13 = .ok (.i2l, 1) := by decide +kernel
theorem dX12_rank_14 : decode cX12_rank 14 = .ok (.lconst 0, 1) := by decide +kernel
theorem dX12_rank_15 : decode cX12_rank 15 = .ok (.ldc2_w 375, 3) := by decide +kernel
theorem dX12_rank_18 : decode cX12_rank 18 = .ok (.invokestatic 139, 3) := by decide +kernel
theorem dX12_rank_21 : decode cX12_rank 21 = .ok (.ifCond .ne 6, 3) := by decide +kernel
theorem dX12_rank_24 : decode cX12_rank 24 = .ok (.bipush (-2), 2) := by decide +kernel
theorem dX12_rank_26 : decode cX12_rank 26 = .ok (.ireturn, 1) := by decide +kernel
theorem dX12_rank_27 : decode cX12_rank 27 = .ok (.aload_n 0, 1) := by decide +kernel
theorem dX12_rank_28 : decode cX12_rank 28 = .ok (.getfield 131, 3) := by decide +kernel
theorem dX12_rank_31 : decode cX12_rank 31 = .ok (.iload_n 1, 1) := by decide +kernel
theorem dX12_rank_32 : decode cX12_rank 32 = .ok (.iaload, 1) := by decide +kernel
theorem dX12_rank_33 : decode cX12_rank 33 = .ok (.istore_n 3, 1) := by decide +kernel
theorem dX12_rank_34 : decode cX12_rank 34 = .ok (.aload_n 0, 1) := by decide +kernel
theorem dX12_rank_35 : decode cX12_rank 35 = .ok (.getfield 131, 3) := by decide +kernel
theorem dX12_rank_38 : decode cX12_rank 38 = .ok (.iload_n 1, 1) := by decide +kernel
theorem dX12_rank_39 : decode cX12_rank 39 = .ok (.iload_n 2, 1) := by decide +kernel
theorem dX12_rank_40 : decode cX12_rank 40 = .ok (.iastore, 1) := by decide +kernel
theorem dX12_rank_41 : decode cX12_rank 41 = .ok (.iload_n 3, 1) := by decide +kernel
theorem dX12_rank_42 : decode cX12_rank 42 = .ok (.ireturn, 1) := by decide +kernel
theorem dX12_isTold_0 : decode cX12_isTold 0 = .ok (.aload_n 0, 1) := by decide +kernel
theorem dX12_isTold_1 : decode cX12_isTold 1 = .ok (.getfield 122, 3) := by decide +kernel
theorem dX12_isTold_4 : decode cX12_isTold 4 = .ok (.iload_n 1, 1) := by decide +kernel
theorem dX12_isTold_5 : decode cX12_isTold 5 = .ok (.iaload, 1) := by decide +kernel
theorem dX12_isTold_6 : decode cX12_isTold 6 = .ok (.iload_n 2, 1) := by decide +kernel
theorem dX12_isTold_7 : decode cX12_isTold 7 = .ok (.if_icmp .ne 17, 3) := by decide +kernel
theorem dX12_isTold_10 : decode cX12_isTold 10 = .ok (.aload_n 0, 1) := by decide +kernel
theorem dX12_isTold_11 : decode cX12_isTold 11 = .ok (.getfield 128, 3) := by decide +kernel
theorem dX12_isTold_14 : decode cX12_isTold 14 = .ok (.iload_n 1, 1) := by decide +kernel
theorem dX12_isTold_15 : decode cX12_isTold 15 = .ok (.iaload, 1) := by decide +kernel
theorem dX12_isTold_16 : decode cX12_isTold 16 = .ok (.iload_n 3, 1) := by decide +kernel
theorem dX12_isTold_17 : decode cX12_isTold 17 = .ok (.if_icmp .gt 7, 3) := by decide +kernel
theorem dX12_isTold_20 : decode cX12_isTold 20 = .ok (.iconst 1, 1) := by decide +kernel
theorem dX12_isTold_21 : decode cX12_isTold 21 = .ok (.goto 4, 3) := by decide +kernel
theorem dX12_isTold_24 : decode cX12_isTold 24 = .ok (.iconst 0, 1) := by decide +kernel
theorem dX12_isTold_25 : decode cX12_isTold 25 = .ok (.ireturn, 1) := by decide +kernel
theorem dX12_whose_0 : decode cX12_whose 0 = .ok (.aload_n 0, 1) := by decide +kernel
theorem dX12_whose_1 : decode cX12_whose 1 = .ok (.iload_n 1, 1) := by decide +kernel
theorem dX12_whose_2 : decode cX12_whose 2 = .ok (.invokevirtual 190, 3) := by decide +kernel
theorem dX12_whose_5 : decode cX12_whose 5 = .ok (.ifCond .eq 10, 3) := by decide +kernel
theorem dX12_whose_8 : decode cX12_whose 8 = .ok (.iload_n 2, 1) := by decide +kernel
theorem dX12_whose_9 : decode cX12_whose 9 = .ok (.invokestatic 244, 3) := by decide +kernel
theorem dX12_whose_12 : decode cX12_whose 12 = .ok (.ifCond .ne 6, 3) := by decide +kernel
theorem dX12_whose_15 : decode cX12_whose 15 = .ok (.bipush (-2), 2) := by decide +kernel
theorem dX12_whose_17 : decode cX12_whose 17 = .ok (.ireturn, 1) := by decide +kernel
theorem dX12_whose_18 : decode cX12_whose 18 = .ok (.bipush 10, 2) := by decide +kernel
theorem dX12_whose_20 : decode cX12_whose 20 = .ok (.istore_n 3, 1) := by decide +kernel
theorem dX12_whose_21 : decode cX12_whose 21 = .ok (.iconst 0, 1) := by decide +kernel
theorem dX12_whose_22 : decode cX12_whose 22 = .ok (.istore 4, 2) := by decide +kernel
theorem dX12_whose_24 : decode cX12_whose 24 = .ok (.iconst 0, 1) := by decide +kernel
theorem dX12_whose_25 : decode cX12_whose 25 = .ok (.istore 5, 2) := by decide +kernel
theorem dX12_whose_27 : decode cX12_whose 27 = .ok (.iload 5, 2) := by decide +kernel
theorem dX12_whose_29 : decode cX12_whose 29 = .ok (.aload_n 0, 1) := by decide +kernel
theorem dX12_whose_30 : decode cX12_whose 30 = .ok (.getfield 372, 3) := by decide +kernel
theorem dX12_whose_33 : decode cX12_whose 33 = .ok (.if_icmp .ge 85, 3) := by decide +kernel
theorem dX12_whose_36 : decode cX12_whose 36 = .ok (.aload_n 0, 1) := by decide +kernel
theorem dX12_whose_37 : decode cX12_whose 37 = .ok (.iload 5, 2) := by decide +kernel
theorem dX12_whose_39 : decode cX12_whose 39 = .ok (.iload_n 1, 1) := by decide +kernel
theorem dX12_whose_40 : decode cX12_whose 40 = .ok (.iload_n 2, 1) := by decide +kernel
theorem dX12_whose_41 : decode cX12_whose 41 = .ok (.invokevirtual 377, 3) := by decide +kernel
theorem dX12_whose_44 : decode cX12_whose 44 = .ok (.ifCond .eq 68, 3) := by decide +kernel
theorem dX12_whose_47 : decode cX12_whose 47 = .ok (.aload_n 0, 1) := by decide +kernel
theorem dX12_whose_48 : decode cX12_whose 48 = .ok (.getfield 131, 3) := by decide +kernel
theorem dX12_whose_51 : decode cX12_whose 51 = .ok (.aload_n 0, 1) := by decide +kernel
theorem dX12_whose_52 : decode cX12_whose 52 = .ok (.getfield 125, 3) := by decide +kernel
theorem dX12_whose_55 : decode cX12_whose 55 = .ok (.iload 5, 2) := by decide +kernel
theorem dX12_whose_57 : decode cX12_whose 57 = .ok (.iaload, 1) := by decide +kernel
theorem dX12_whose_58 : decode cX12_whose 58 = .ok (.iaload, 1) := by decide +kernel
theorem dX12_whose_59 : decode cX12_whose 59 = .ok (.istore 6, 2) := by decide +kernel
theorem dX12_whose_61 : decode cX12_whose 61 = .ok (.iload 6, 2) := by decide +kernel
theorem dX12_whose_63 : decode cX12_whose 63 = .ok (.iload_n 3, 1) := by decide +kernel
theorem dX12_whose_64 : decode cX12_whose 64 = .ok (.if_icmp .ge 7, 3) := by decide +kernel
theorem dX12_whose_67 : decode cX12_whose 67 = .ok (.iconst 0, 1) := by decide +kernel
theorem dX12_whose_68 : decode cX12_whose 68 = .ok (.goto 5, 3) := by decide +kernel
theorem dX12_whose_71 : decode cX12_whose 71 = .ok (.iload 4, 2) := by decide +kernel
theorem dX12_whose_73 : decode cX12_whose 73 = .ok (.istore 4, 2) := by decide +kernel
theorem dX12_whose_75 : decode cX12_whose 75 = .ok (.iload 6, 2) := by decide +kernel
theorem dX12_whose_77 : decode cX12_whose 77 = .ok (.iload_n 3, 1) := by decide +kernel
theorem dX12_whose_78 : decode cX12_whose 78 = .ok (.if_icmp .ge 8, 3) := by decide +kernel
theorem dX12_whose_81 : decode cX12_whose 81 = .ok (.iload 6, 2) := by decide +kernel
theorem dX12_whose_83 : decode cX12_whose 83 = .ok (.goto 4, 3) := by decide +kernel
theorem dX12_whose_86 : decode cX12_whose 86 = .ok (.iload_n 3, 1) := by decide +kernel
theorem dX12_whose_87 : decode cX12_whose 87 = .ok (.istore_n 3, 1) := by decide +kernel
theorem dX12_whose_88 : decode cX12_whose 88 = .ok (.iload 4, 2) := by decide +kernel
theorem dX12_whose_90 : decode cX12_whose 90 = .ok (.iload 6, 2) := by decide +kernel
theorem dX12_whose_92 : decode cX12_whose 92 = .ok (.iload_n 3, 1) := by decide +kernel
theorem dX12_whose_93 : decode cX12_whose 93 = .ok (.if_icmp .ne 15, 3) := by decide +kernel
theorem dX12_whose_96 : decode cX12_whose 96 = .ok (.iconst 1, 1) := by decide +kernel
theorem dX12_whose_97 : decode cX12_whose 97 = .ok (.aload_n 0, 1) := by decide +kernel
theorem dX12_whose_98 : decode cX12_whose 98 = .ok (.getfield 119, 3) := by decide +kernel
theorem dX12_whose_101 : decode cX12_whose 101 = .ok (.iload 5, 2) := by decide +kernel
theorem dX12_whose_103 : decode cX12_whose 103 = .ok (.iaload, 1) := by decide +kernel
theorem dX12_whose_104 : decode cX12_whose 104 = .ok (.ishl, 1) := by decide +kernel
theorem dX12_whose_105 : decode cX12_whose 105 = .ok (.goto 4, 3) := by decide +kernel
theorem dX12_whose_108 : decode cX12_whose 108 = .ok (.iconst 0, 1) := by decide +kernel
theorem dX12_whose_109 : decode cX12_whose 109 = .ok (.ior, 1) := by decide +kernel
theorem dX12_whose_110 : decode cX12_whose 110 = .ok (.istore 4, 2) := by decide +kernel
theorem dX12_whose_112 : decode cX12_whose 112 = .ok (.iinc 5 1, 3) := by decide +kernel
theorem dX12_whose_115 : decode cX12_whose 115 = .ok (.goto (-88), 3) := by decide +kernel
theorem dX12_whose_118 : decode cX12_whose 118 = .ok (.iload 4, 2) := by decide +kernel
theorem dX12_whose_120 : decode cX12_whose 120 = .ok (.ifCond .ne 6, 3) := by decide +kernel
theorem dX12_whose_123 : decode cX12_whose 123 = .ok (.bipush (-3), 2) := by decide +kernel
theorem dX12_whose_125 : decode cX12_whose 125 = .ok (.ireturn, 1) := by decide +kernel
theorem dX12_whose_126 : decode cX12_whose 126 = .ok (.iconst 0, 1) := by decide +kernel
theorem dX12_whose_127 : decode cX12_whose 127 = .ok (.istore 5, 2) := by decide +kernel
theorem dX12_whose_129 : decode cX12_whose 129 = .ok (.iload 4, 2) := by decide +kernel
theorem dX12_whose_131 : decode cX12_whose 131 = .ok (.iload 5, 2) := by decide +kernel
theorem dX12_whose_133 : decode cX12_whose 133 = .ok (.ishr, 1) := by decide +kernel
theorem dX12_whose_134 : decode cX12_whose 134 = .ok (.iconst 1, 1) := by decide +kernel
theorem dX12_whose_135 : decode cX12_whose 135 = .ok (.iand, 1) := by decide +kernel
theorem dX12_whose_136 : decode cX12_whose 136 = .ok (.ifCond .ne 9, 3) := by decide +kernel
theorem dX12_whose_139 : decode cX12_whose 139 = .ok (.iinc 5 1, 3) := by decide +kernel
theorem dX12_whose_142 : decode cX12_whose 142 = .ok (.goto (-13), 3) := by decide +kernel
theorem dX12_whose_145 : decode cX12_whose 145 = .ok (.iload 4, 2) := by decide +kernel
theorem dX12_whose_147 : decode cX12_whose 147 = .ok (.invokestatic 272, 3) := by decide +kernel
theorem dX12_whose_150 : decode cX12_whose 150 = .ok (.iconst 1, 1) := by decide +kernel
theorem dX12_whose_151 : decode cX12_whose 151 = .ok (.if_icmp .le 7, 3) := by decide +kernel
theorem dX12_whose_154 : decode cX12_whose 154 = .ok (.iconst (-1), 1) := by decide +kernel
theorem dX12_whose_155 : decode cX12_whose 155 = .ok (.goto 5, 3) := by decide +kernel
theorem dX12_whose_158 : decode cX12_whose 158 = .ok (.iload 5, 2) := by decide +kernel
theorem dX12_whose_160 : decode cX12_whose 160 = .ok (.ireturn, 1) := by decide +kernel
theorem dX12_lands_0 : decode cX12_lands 0 = .ok (.aload_n 0, 1) := by decide +kernel
theorem dX12_lands_1 : decode cX12_lands 1 = .ok (.iload_n 1, 1) := by decide +kernel
theorem dX12_lands_2 : decode cX12_lands 2 = .ok (.invokevirtual 190, 3) := by decide +kernel
theorem dX12_lands_5 : decode cX12_lands 5 = .ok (.ifCond .eq 10, 3) := by decide +kernel
theorem dX12_lands_8 : decode cX12_lands 8 = .ok (.iload_n 2, 1) := by decide +kernel
theorem dX12_lands_9 : decode cX12_lands 9 = .ok (.invokestatic 244, 3) := by decide +kernel
theorem dX12_lands_12 : decode cX12_lands 12 = .ok (.ifCond .ne 6, 3) := by decide +kernel
theorem dX12_lands_15 : decode cX12_lands 15 = .ok (.bipush (-2), 2) := by decide +kernel
theorem dX12_lands_17 : decode cX12_lands 17 = .ok (.ireturn, 1) := by decide +kernel
theorem dX12_lands_18 : decode cX12_lands 18 = .ok (.iconst 0, 1) := by decide +kernel
theorem dX12_lands_19 : decode cX12_lands 19 = .ok (.istore_n 3, 1) := by decide +kernel
theorem dX12_lands_20 : decode cX12_lands 20 = .ok (.iconst 0, 1) := by decide +kernel
theorem dX12_lands_21 : decode cX12_lands 21 = .ok (.istore 4, 2) := by decide +kernel
theorem dX12_lands_23 : decode cX12_lands 23 = .ok (.iload 4, 2) := by decide +kernel
theorem dX12_lands_25 : decode cX12_lands 25 = .ok (.aload_n 0, 1) := by decide +kernel
theorem dX12_lands_26 : decode cX12_lands 26 = .ok (.getfield 372, 3) := by decide +kernel
theorem dX12_lands_29 : decode cX12_lands 29 = .ok (.if_icmp .ge 41, 3) := by decide +kernel
theorem dX12_lands_32 : decode cX12_lands 32 = .ok (.iload_n 3, 1) := by decide +kernel
theorem dX12_lands_33 : decode cX12_lands 33 = .ok (.aload_n 0, 1) := by decide +kernel
theorem dX12_lands_34 : decode cX12_lands 34 = .ok (.iload 4, 2) := by decide +kernel
theorem dX12_lands_36 : decode cX12_lands 36 = .ok (.iload_n 1, 1) := by decide +kernel
theorem dX12_lands_37 : decode cX12_lands 37 = .ok (.iload_n 2, 1) := by decide +kernel
theorem dX12_lands_38 : decode cX12_lands 38 = .ok (.invokevirtual 377, 3) := by decide +kernel
theorem dX12_lands_41 : decode cX12_lands 41 = .ok (.ifCond .eq 20, 3) := by decide +kernel
theorem dX12_lands_44 : decode cX12_lands 44 = .ok (.iconst 1, 1) := by decide +kernel
theorem dX12_lands_45 : decode cX12_lands 45 = .ok (.aload_n 0, 1) := by decide +kernel
theorem dX12_lands_46 : decode cX12_lands 46 = .ok (.getfield 22, 3) := by decide +kernel
theorem dX12_lands_49 : decode cX12_lands 49 = .ok (.aload_n 0, 1) := by decide +kernel
theorem dX12_lands_50 : decode cX12_lands 50 = .ok (.getfield 119, 3) := by decide +kernel
theorem dX12_lands_53 : decode cX12_lands 53 = .ok (.iload 4, 2) := by decide +kernel
theorem dX12_lands_55 : decode cX12_lands 55 = .ok (.iaload, 1) := by decide +kernel
theorem dX12_lands_56 : decode cX12_lands 56 = .ok (.iaload, 1) := by decide +kernel
theorem dX12_lands_57 : decode cX12_lands 57 = .ok (.ishl, 1) := by decide +kernel
theorem dX12_lands_58 : decode cX12_lands 58 = .ok (.goto 4, 3) := by decide +kernel
theorem dX12_lands_61 : decode cX12_lands 61 = .ok (.iconst 0, 1) := by decide +kernel
theorem dX12_lands_62 : decode cX12_lands 62 = .ok (.ior, 1) := by decide +kernel
theorem dX12_lands_63 : decode cX12_lands 63 = .ok (.istore_n 3, 1) := by decide +kernel
theorem dX12_lands_64 : decode cX12_lands 64 = .ok (.iinc 4 1, 3) := by decide +kernel
theorem dX12_lands_67 : decode cX12_lands 67 = .ok (.goto (-44), 3) := by decide +kernel
theorem dX12_lands_70 : decode cX12_lands 70 = .ok (.iload_n 3, 1) := by decide +kernel
theorem dX12_lands_71 : decode cX12_lands 71 = .ok (.invokestatic 272, 3) := by decide +kernel
theorem dX12_lands_74 : decode cX12_lands 74 = .ok (.ireturn, 1) := by decide +kernel
theorem dX12_write_0 : decode cX12_write 0 = .ok (.iload_n 1, 1) := by decide +kernel
theorem dX12_write_1 : decode cX12_write 1 = .ok (.invokestatic 143, 3) := by decide +kernel
theorem dX12_write_4 : decode cX12_write 4 = .ok (.ifCond .eq 10, 3) := by decide +kernel
theorem dX12_write_7 : decode cX12_write 7 = .ok (.iload_n 2, 1) := by decide +kernel
theorem dX12_write_8 : decode cX12_write 8 = .ok (.invokestatic 244, 3) := by decide +kernel
theorem dX12_write_11 : decode cX12_write 11 = .ok (.ifCond .ne 6, 3) := by decide +kernel
theorem dX12_write_14 : decode cX12_write 14 = .ok (.bipush (-2), 2) := by decide +kernel
theorem dX12_write_16 : decode cX12_write 16 = .ok (.ireturn, 1) := by decide +kernel
theorem dX12_write_17 : decode cX12_write 17 = .ok (.aload_n 0, 1) := by decide +kernel
theorem dX12_write_18 : decode cX12_write 18 = .ok (.getfield 7, 3) := by decide +kernel
theorem dX12_write_21 : decode cX12_write 21 = .ok (.iload_n 1, 1) := by decide +kernel
theorem dX12_write_22 : decode cX12_write 22 = .ok (.iaload, 1) := by decide +kernel
theorem dX12_write_23 : decode cX12_write 23 = .ok (.ifCond .ge 9, 3) := by decide +kernel
theorem dX12_write_26 : decode cX12_write 26 = .ok (.aload_n 0, 1) := by decide +kernel
theorem dX12_write_27 : decode cX12_write 27 = .ok (.iconst 1, 1) := by decide +kernel
theorem dX12_write_28 : decode cX12_write 28 = .ok (.invokevirtual 149, 3) := by decide +kernel
theorem dX12_write_31 : decode cX12_write 31 = .ok (.ireturn, 1) := by decide +kernel
theorem dX12_write_32 : decode cX12_write 32 = .ok (.aload_n 0, 1) := by decide +kernel
theorem dX12_write_33 : decode cX12_write 33 = .ok (.invokevirtual 234, 3) := by decide +kernel
theorem dX12_write_36 : decode cX12_write 36 = .ok (.pop, 1) := by decide +kernel
theorem dX12_write_37 : decode cX12_write 37 = .ok (.aload_n 0, 1) := by decide +kernel
theorem dX12_write_38 : decode cX12_write 38 = .ok (.getfield 167, 3) := by decide +kernel
theorem dX12_write_41 : decode cX12_write 41 = .ok (.aload_n 0, 1) := by decide +kernel
theorem dX12_write_42 : decode cX12_write 42 = .ok (.getfield 13, 3) := by decide +kernel
theorem dX12_write_45 : decode cX12_write 45 = .ok (.iload_n 1, 1) := by decide +kernel
theorem dX12_write_46 : decode cX12_write 46 = .ok (.iaload, 1) := by decide +kernel
theorem dX12_write_47 : decode cX12_write 47 = .ok (.if_icmp .ge 10, 3) := by decide +kernel
theorem dX12_write_50 : decode cX12_write 50 = .ok (.aload_n 0, 1) := by decide +kernel
theorem dX12_write_51 : decode cX12_write 51 = .ok (.getfield 167, 3) := by decide +kernel
theorem dX12_write_54 : decode cX12_write 54 = .ok (.goto 9, 3) := by decide +kernel
theorem dX12_write_57 : decode cX12_write 57 = .ok (.aload_n 0, 1) := by decide +kernel
theorem dX12_write_58 : decode cX12_write 58 = .ok (.getfield 13, 3) := by decide +kernel
theorem dX12_write_61 : decode cX12_write 61 = .ok (.iload_n 1, 1) := by decide +kernel
theorem dX12_write_62 : decode cX12_write 62 = .ok (.iaload, 1) := by decide +kernel
theorem dX12_write_63 : decode cX12_write 63 = .ok (.istore_n 3, 1) := by decide +kernel
theorem dX12_write_64 : decode cX12_write 64 = .ok (.iconst 0, 1) := by decide +kernel
theorem dX12_write_65 : decode cX12_write 65 = .ok (.istore 4, 2) := by decide +kernel
theorem dX12_write_67 : decode cX12_write 67 = .ok (.iload 4, 2) := by decide +kernel
theorem dX12_write_69 : decode cX12_write 69 = .ok (.iload_n 3, 1) := by decide +kernel
theorem dX12_write_70 : decode cX12_write 70 = .ok (.if_icmp .ge 37, 3) := by decide +kernel
theorem dX12_write_73 : decode cX12_write 73 = .ok (.aload_n 0, 1) := by decide +kernel
theorem dX12_write_74 : decode cX12_write 74 = .ok (.getfield 16, 3) := by decide +kernel
theorem dX12_write_77 : decode cX12_write 77 = .ok (.bipush 60, 2) := by decide +kernel
theorem dX12_write_79 : decode cX12_write 79 = .ok (.iload_n 1, 1) := by decide +kernel
theorem dX12_write_80 : decode cX12_write 80 = .ok (.imul, 1) := by decide +kernel
theorem dX12_write_81 : decode cX12_write 81 = .ok (.iload 4, 2) := by decide +kernel
theorem dX12_write_83 : decode cX12_write 83 = .ok (.iadd, 1) := by decide +kernel
theorem dX12_write_84 : decode cX12_write 84 = .ok (.aload_n 0, 1) := by decide +kernel
theorem dX12_write_85 : decode cX12_write 85 = .ok (.getfield 7, 3) := by decide +kernel
theorem dX12_write_88 : decode cX12_write 88 = .ok (.iload_n 1, 1) := by decide +kernel
theorem dX12_write_89 : decode cX12_write 89 = .ok (.iaload, 1) := by decide +kernel
theorem dX12_write_90 : decode cX12_write 90 = .ok (.aload_n 0, 1) := by decide +kernel
theorem dX12_write_91 : decode cX12_write 91 = .ok (.iload 4, 2) := by decide +kernel
theorem dX12_write_93 : decode cX12_write 93 = .ok (.iload_n 2, 1) := by decide +kernel
theorem dX12_write_94 : decode cX12_write 94 = .ok (.invokevirtual 247, 3) := by decide +kernel
theorem dX12_write_97 : decode cX12_write 97 = .ok (.invokestatic 157, 3) := by decide +kernel
theorem dX12_write_100 : decode cX12_write 100 = .ok (.iastore, 1) := by decide +kernel
theorem dX12_write_101 : decode cX12_write 101 = .ok (.iinc 4 1, 3) := by decide +kernel
theorem dX12_write_104 : decode cX12_write 104 = .ok (.goto (-37), 3) := by decide +kernel
theorem dX12_write_107 : decode cX12_write 107 = .ok (.iload_n 3, 1) := by decide +kernel
theorem dX12_write_108 : decode cX12_write 108 = .ok (.ireturn, 1) := by decide +kernel
theorem dX12_count_0 : decode cX12_count 0 = .ok (.iconst 0, 1) := by decide +kernel
theorem dX12_count_1 : decode cX12_count 1 = .ok (.istore_n 2, 1) := by decide +kernel
theorem dX12_count_2 : decode cX12_count 2 = .ok (.iload_n 1, 1) := by decide +kernel
theorem dX12_count_3 : decode cX12_count 3 = .ok (.tableswitch 128 0 9 #[53, 58, 63, 68, 68, 103, 108, 113, 118, 123], 53) := by decide +kernel
theorem dX12_count_56 : decode cX12_count 56 = .ok (.aload_n 0, 1) := by decide +kernel
theorem dX12_count_57 : decode cX12_count 57 = .ok (.getfield 172, 3) := by decide +kernel
theorem dX12_count_60 : decode cX12_count 60 = .ok (.ireturn, 1) := by decide +kernel
theorem dX12_count_61 : decode cX12_count 61 = .ok (.aload_n 0, 1) := by decide +kernel
theorem dX12_count_62 : decode cX12_count 62 = .ok (.getfield 164, 3) := by decide +kernel
theorem dX12_count_65 : decode cX12_count 65 = .ok (.ireturn, 1) := by decide +kernel
theorem dX12_count_66 : decode cX12_count 66 = .ok (.aload_n 0, 1) := by decide +kernel
theorem dX12_count_67 : decode cX12_count 67 = .ok (.getfield 167, 3) := by decide +kernel
theorem dX12_count_70 : decode cX12_count 70 = .ok (.ireturn, 1) := by decide +kernel
theorem dX12_count_71 : decode cX12_count 71 = .ok (.iconst 0, 1) := by decide +kernel
theorem dX12_count_72 : decode cX12_count 72 = .ok (.istore_n 3, 1) := by decide +kernel
theorem dX12_count_73 : decode cX12_count 73 = .ok (.iload_n 3, 1) := by decide +kernel
theorem dX12_count_74 : decode cX12_count 74 = .ok (.aload_n 0, 1) := by decide +kernel
theorem dX12_count_75 : decode cX12_count 75 = .ok (.getfield 167, 3) := by decide +kernel
theorem dX12_count_78 : decode cX12_count 78 = .ok (.if_icmp .ge 26, 3) := by decide +kernel
theorem dX12_count_81 : decode cX12_count 81 = .ok (.iload_n 2, 1) := by decide +kernel
theorem dX12_count_82 : decode cX12_count 82 = .ok (.aload_n 0, 1) := by decide +kernel
theorem dX12_count_83 : decode cX12_count 83 = .ok (.iload_n 3, 1) := by decide +kernel
theorem dX12_count_84 : decode cX12_count 84 = .ok (.invokevirtual 200, 3) := by decide +kernel
theorem dX12_count_87 : decode cX12_count 87 = .ok (.iload_n 1, 1) := by decide +kernel
theorem dX12_count_88 : decode cX12_count 88 = .ok (.if_icmp .ne 7, 3) := by decide +kernel
theorem dX12_count_91 : decode cX12_count 91 = .ok (.iconst 1, 1) := by decide +kernel
theorem dX12_count_92 : decode cX12_count 92 = .ok (.goto 4, 3) := by decide +kernel
theorem dX12_count_95 : decode cX12_count 95 = .ok (.iconst 0, 1) := by decide +kernel
theorem dX12_count_96 : decode cX12_count 96 = .ok (.iadd, 1) := by decide +kernel
theorem dX12_count_97 : decode cX12_count 97 = .ok (.istore_n 2, 1) := by decide +kernel
theorem dX12_count_98 : decode cX12_count 98 = .ok (.iinc 3 1, 3) := by decide +kernel
theorem dX12_count_101 : decode cX12_count 101 = .ok (.goto (-28), 3) := by decide +kernel
theorem dX12_count_104 : decode cX12_count 104 = .ok (.iload_n 2, 1) := by decide +kernel
theorem dX12_count_105 : decode cX12_count 105 = .ok (.ireturn, 1) := by decide +kernel
theorem dX12_count_106 : decode cX12_count 106 = .ok (.aload_n 0, 1) := by decide +kernel
theorem dX12_count_107 : decode cX12_count 107 = .ok (.getfield 253, 3) := by decide +kernel
theorem dX12_count_110 : decode cX12_count 110 = .ok (.ireturn, 1) := by decide +kernel
theorem dX12_count_111 : decode cX12_count 111 = .ok (.aload_n 0, 1) := by decide +kernel
theorem dX12_count_112 : decode cX12_count 112 = .ok (.getfield 313, 3) := by decide +kernel
theorem dX12_count_115 : decode cX12_count 115 = .ok (.ireturn, 1) := by decide +kernel
theorem dX12_count_116 : decode cX12_count 116 = .ok (.aload_n 0, 1) := by decide +kernel
theorem dX12_count_117 : decode cX12_count 117 = .ok (.getfield 372, 3) := by decide +kernel
theorem dX12_count_120 : decode cX12_count 120 = .ok (.ireturn, 1) := by decide +kernel
theorem dX12_count_121 : decode cX12_count 121 = .ok (.aload_n 0, 1) := by decide +kernel
theorem dX12_count_122 : decode cX12_count 122 = .ok (.getfield 134, 3) := by decide +kernel
theorem dX12_count_125 : decode cX12_count 125 = .ok (.ireturn, 1) := by decide +kernel
theorem dX12_count_126 : decode cX12_count 126 = .ok (.aload_n 0, 1) := by decide +kernel
theorem dX12_count_127 : decode cX12_count 127 = .ok (.getfield 211, 3) := by decide +kernel
theorem dX12_count_130 : decode cX12_count 130 = .ok (.ireturn, 1) := by decide +kernel
theorem dX12_count_131 : decode cX12_count 131 = .ok (.bipush (-2), 2) := by decide +kernel
theorem dX12_count_133 : decode cX12_count 133 = .ok (.ireturn, 1) := by decide +kernel
theorem dX12_digest_0 : decode cX12_digest 0 = .ok (.ldc2_w 381, 3) := by decide +kernel
theorem dX12_digest_3 : decode cX12_digest 3 = .ok (.lstore_n 1, 1) := by decide +kernel
theorem dX12_digest_4 : decode cX12_digest 4 = .ok (.iconst 0, 1) := by decide +kernel
theorem dX12_digest_5 : decode cX12_digest 5 = .ok (.istore_n 3, 1) := by decide +kernel
theorem dX12_digest_6 : decode cX12_digest 6 = .ok (.iload_n 3, 1) := by decide +kernel
theorem dX12_digest_7 : decode cX12_digest 7 = .ok (.bipush 10, 2) := by decide +kernel
theorem dX12_digest_9 : decode cX12_digest 9 = .ok (.if_icmp .ge 32, 3) := by decide +kernel
theorem dX12_digest_12 : decode cX12_digest 12 = .ok (.iload_n 3, 1) := by decide +kernel
theorem dX12_digest_13 : decode cX12_digest 13 = .ok (.bipush 8, 2) := by decide +kernel
theorem dX12_digest_15 : decode cX12_digest 15 = .ok (.if_icmp .ne 7, 3) := by decide +kernel
theorem dX12_digest_18 : decode cX12_digest 18 = .ok (.lload_n 1, 1) := by decide +kernel
theorem dX12_digest_19 : decode cX12_digest 19 = .ok (.goto 15, 3) := by decide +kernel
theorem dX12_digest_22 : decode cX12_digest 22 = .ok (.ldc2_w 383, 3) := by decide +kernel
theorem dX12_digest_25 : decode cX12_digest 25 = .ok (.lload_n 1, 1) := by decide +kernel
theorem dX12_digest_26 : decode cX12_digest 26 = .ok (.lmul, 1) := by decide +kernel
theorem dX12_digest_27 : decode cX12_digest 27 = .ok (.aload_n 0, 1) := by decide +kernel
theorem dX12_digest_28 : decode cX12_digest 28 = .ok (.iload_n 3, 1) := by decide +kernel
theorem dX12_digest_29 : decode cX12_digest 29 = .ok (.invokevirtual 385, 3) := by decide +kernel
theorem dX12_digest_32 : decode cX12_digest 32 = .ok (.i2l, 1) := by decide +kernel
theorem dX12_digest_33 : decode cX12_digest 33 = .ok (.ladd, 1) := by decide +kernel
theorem dX12_digest_34 : decode cX12_digest 34 = .ok (.lstore_n 1, 1) := by decide +kernel
theorem dX12_digest_35 : decode cX12_digest 35 = .ok (.iinc 3 1, 3) := by decide +kernel
theorem dX12_digest_38 : decode cX12_digest 38 = .ok (.goto (-32), 3) := by decide +kernel
theorem dX12_digest_41 : decode cX12_digest 41 = .ok (.aload_n 0, 1) := by decide +kernel
theorem dX12_digest_42 : decode cX12_digest 42 = .ok (.invokevirtual 234, 3) := by decide +kernel
theorem dX12_digest_45 : decode cX12_digest 45 = .ok (.pop, 1) := by decide +kernel
theorem dX12_digest_46 : decode cX12_digest 46 = .ok (.iconst 0, 1) := by decide +kernel
theorem dX12_digest_47 : decode cX12_digest 47 = .ok (.istore_n 3, 1) := by decide +kernel
theorem dX12_digest_48 : decode cX12_digest 48 = .ok (.iload_n 3, 1) := by decide +kernel
theorem dX12_digest_49 : decode cX12_digest 49 = .ok (.aload_n 0, 1) := by decide +kernel
theorem dX12_digest_50 : decode cX12_digest 50 = .ok (.getfield 164, 3) := by decide +kernel
theorem dX12_digest_53 : decode cX12_digest 53 = .ok (.if_icmp .ge 71, 3) := by decide +kernel
theorem dX12_digest_56 : decode cX12_digest 56 = .ok (.ldc2_w 383, 3) := by decide +kernel
theorem dX12_digest_59 : decode cX12_digest 59 = .ok (.lload_n 1, 1) := by decide +kernel
theorem dX12_digest_60 : decode cX12_digest 60 = .ok (.lmul, 1) := by decide +kernel
theorem dX12_digest_61 : decode cX12_digest 61 = .ok (.aload_n 0, 1) := by decide +kernel
theorem dX12_digest_62 : decode cX12_digest 62 = .ok (.getfield 22, 3) := by decide +kernel
theorem dX12_digest_65 : decode cX12_digest 65 = .ok (.iload_n 3, 1) := by decide +kernel
theorem dX12_digest_66 : decode cX12_digest 66 = .ok (.iaload, 1) := by decide +kernel
theorem dX12_digest_67 : decode cX12_digest 67 = .ok (.i2l, 1) := by decide +kernel
theorem dX12_digest_68 : decode cX12_digest 68 = .ok (.ladd, 1) := by decide +kernel
theorem dX12_digest_69 : decode cX12_digest 69 = .ok (.lstore_n 1, 1) := by decide +kernel
theorem dX12_digest_70 : decode cX12_digest 70 = .ok (.iconst 0, 1) := by decide +kernel
theorem dX12_digest_71 : decode cX12_digest 71 = .ok (.istore 4, 2) := by decide +kernel
theorem dX12_digest_73 : decode cX12_digest 73 = .ok (.iload 4, 2) := by decide +kernel
theorem dX12_digest_75 : decode cX12_digest 75 = .ok (.bipush 6, 2) := by decide +kernel
theorem dX12_digest_77 : decode cX12_digest 77 = .ok (.if_icmp .ge 24, 3) := by decide +kernel
theorem dX12_digest_80 : decode cX12_digest 80 = .ok (.ldc2_w 383, 3) := by decide +kernel
theorem dX12_digest_83 : decode cX12_digest 83 = .ok (.lload_n 1, 1) := by decide +kernel
theorem dX12_digest_84 : decode cX12_digest 84 = .ok (.lmul, 1) := by decide +kernel
theorem dX12_digest_85 : decode cX12_digest 85 = .ok (.aload_n 0, 1) := by decide +kernel
theorem dX12_digest_86 : decode cX12_digest 86 = .ok (.iload_n 3, 1) := by decide +kernel
theorem dX12_digest_87 : decode cX12_digest 87 = .ok (.iload 4, 2) := by decide +kernel
theorem dX12_digest_89 : decode cX12_digest 89 = .ok (.invokevirtual 310, 3) := by decide +kernel
theorem dX12_digest_92 : decode cX12_digest 92 = .ok (.i2l, 1) := by decide +kernel
theorem dX12_digest_93 : decode cX12_digest 93 = .ok (.ladd, 1) := by decide +kernel
theorem dX12_digest_94 : decode cX12_digest 94 = .ok (.lstore_n 1, 1) := by decide +kernel
theorem dX12_digest_95 : decode cX12_digest 95 = .ok (.iinc 4 1, 3) := by decide +kernel
theorem dX12_digest_98 : decode cX12_digest 98 = .ok (.goto (-25), 3) := by decide +kernel
theorem dX12_digest_101 : decode cX12_digest 101 = .ok (.ldc2_w 383, 3) := by decide +kernel
theorem dX12_digest_104 : decode cX12_digest 104 = .ok (.lload_n 1, 1) := by decide +kernel
theorem dX12_digest_105 : decode cX12_digest 105 = .ok (.lmul, 1) := by decide +kernel
theorem dX12_digest_106 : decode cX12_digest 106 = .ok (.aload_n 0, 1) := by decide +kernel
theorem dX12_digest_107 : decode cX12_digest 107 = .ok (.iload_n 3, 1) := by decide +kernel
theorem dX12_digest_108 : decode cX12_digest 108 = .ok (.aload_n 0, 1) := by decide +kernel
theorem dX12_digest_109 : decode cX12_digest 109 = .ok (.getfield 172, 3) := by decide +kernel
theorem dX12_digest_112 : decode cX12_digest 112 = .ok (.invokevirtual 250, 3) := by decide +kernel
theorem dX12_digest_115 : decode cX12_digest 115 = .ok (.i2l, 1) := by decide +kernel
theorem dX12_digest_116 : decode cX12_digest 116 = .ok (.ladd, 1) := by decide +kernel
theorem dX12_digest_117 : decode cX12_digest 117 = .ok (.lstore_n 1, 1) := by decide +kernel
theorem dX12_digest_118 : decode cX12_digest 118 = .ok (.iinc 3 1, 3) := by decide +kernel
theorem dX12_digest_121 : decode cX12_digest 121 = .ok (.goto (-73), 3) := by decide +kernel
theorem dX12_digest_124 : decode cX12_digest 124 = .ok (.iconst 0, 1) := by decide +kernel
theorem dX12_digest_125 : decode cX12_digest 125 = .ok (.istore_n 3, 1) := by decide +kernel
theorem dX12_digest_126 : decode cX12_digest 126 = .ok (.iload_n 3, 1) := by decide +kernel
theorem dX12_digest_127 : decode cX12_digest 127 = .ok (.aload_n 0, 1) := by decide +kernel
theorem dX12_digest_128 : decode cX12_digest 128 = .ok (.getfield 167, 3) := by decide +kernel
theorem dX12_digest_131 : decode cX12_digest 131 = .ok (.if_icmp .ge 91, 3) := by decide +kernel
theorem dX12_digest_134 : decode cX12_digest 134 = .ok (.iconst 0, 1) := by decide +kernel
theorem dX12_digest_135 : decode cX12_digest 135 = .ok (.istore 4, 2) := by decide +kernel
theorem dX12_digest_137 : decode cX12_digest 137 = .ok (.iload 4, 2) := by decide +kernel
theorem dX12_digest_139 : decode cX12_digest 139 = .ok (.bipush 9, 2) := by decide +kernel
theorem dX12_digest_141 : decode cX12_digest 141 = .ok (.if_icmp .ge 24, 3) := by decide +kernel
theorem dX12_digest_144 : decode cX12_digest 144 = .ok (.ldc2_w 383, 3) := by decide +kernel
theorem dX12_digest_147 : decode cX12_digest 147 = .ok (.lload_n 1, 1) := by decide +kernel
theorem dX12_digest_148 : decode cX12_digest 148 = .ok (.lmul, 1) := by decide +kernel
theorem dX12_digest_149 : decode cX12_digest 149 = .ok (.aload_n 0, 1) := by decide +kernel
theorem dX12_digest_150 : decode cX12_digest 150 = .ok (.iload_n 3, 1) := by decide +kernel
theorem dX12_digest_151 : decode cX12_digest 151 = .ok (.iload 4, 2) := by decide +kernel
theorem dX12_digest_153 : decode cX12_digest 153 = .ok (.invokevirtual 388, 3) := by decide +kernel
theorem dX12_digest_156 : decode cX12_digest 156 = .ok (.i2l, 1) := by decide +kernel
theorem dX12_digest_157 : decode cX12_digest 157 = .ok (.ladd, 1) := by decide +kernel
theorem dX12_digest_158 : decode cX12_digest 158 = .ok (.lstore_n 1, 1) := by decide +kernel
theorem dX12_digest_159 : decode cX12_digest 159 = .ok (.iinc 4 1, 3) := by decide +kernel
theorem dX12_digest_162 : decode cX12_digest 162 = .ok (.goto (-25), 3) := by decide +kernel
theorem dX12_digest_165 : decode cX12_digest 165 = .ok (.iconst 0, 1) := by decide +kernel
theorem dX12_digest_166 : decode cX12_digest 166 = .ok (.istore 4, 2) := by decide +kernel
theorem dX12_digest_168 : decode cX12_digest 168 = .ok (.iload 4, 2) := by decide +kernel
theorem dX12_digest_170 : decode cX12_digest 170 = .ok (.iconst 5, 1) := by decide +kernel
theorem dX12_digest_171 : decode cX12_digest 171 = .ok (.if_icmp .ge 28, 3) := by decide +kernel
theorem dX12_digest_174 : decode cX12_digest 174 = .ok (.ldc2_w 383, 3) := by decide +kernel
theorem dX12_digest_177 : decode cX12_digest 177 = .ok (.lload_n 1, 1) := by decide +kernel
theorem dX12_digest_178 : decode cX12_digest 178 = .ok (.lmul, 1) := by decide +kernel
theorem dX12_digest_179 : decode cX12_digest 179 = .ok (.aload_n 0, 1) := by decide +kernel
theorem dX12_digest_180 : decode cX12_digest 180 = .ok (.getfield 37, 3) := by decide +kernel
theorem dX12_digest_183 : decode cX12_digest 183 = .ok (.iconst 5, 1) := by decide +kernel
theorem dX12_digest_184 : decode cX12_digest 184 = .ok (.iload_n 3, 1) := by decide +kernel
theorem dX12_digest_185 : decode cX12_digest 185 = .ok (.imul, 1) := by decide +kernel
theorem dX12_digest_186 : decode cX12_digest 186 = .ok (.iload 4, 2) := by decide +kernel
theorem dX12_digest_188 : decode cX12_digest 188 = .ok (.iadd, 1) := by decide +kernel
theorem dX12_digest_189 : decode cX12_digest 189 = .ok (.iaload, 1) := by decide +kernel
theorem dX12_digest_190 : decode cX12_digest 190 = .ok (.i2l, 1) := by decide +kernel
theorem dX12_digest_191 : decode cX12_digest 191 = .ok (.ladd, 1) := by decide +kernel
theorem dX12_digest_192 : decode cX12_digest 192 = .ok (.lstore_n 1, 1) := by decide +kernel
theorem dX12_digest_193 : decode cX12_digest 193 = .ok (.iinc 4 1, 3) := by decide +kernel
theorem dX12_digest_196 : decode cX12_digest 196 = .ok (.goto (-28), 3) := by decide +kernel
theorem dX12_digest_199 : decode cX12_digest 199 = .ok (.ldc2_w 383, 3) := by decide +kernel
theorem dX12_digest_202 : decode cX12_digest 202 = .ok (.lload_n 1, 1) := by decide +kernel
theorem dX12_digest_203 : decode cX12_digest 203 = .ok (.lmul, 1) := by decide +kernel
theorem dX12_digest_204 : decode cX12_digest 204 = .ok (.aload_n 0, 1) := by decide +kernel
theorem dX12_digest_205 : decode cX12_digest 205 = .ok (.iload_n 3, 1) := by decide +kernel
theorem dX12_digest_206 : decode cX12_digest 206 = .ok (.aload_n 0, 1) := by decide +kernel
theorem dX12_digest_207 : decode cX12_digest 207 = .ok (.getfield 172, 3) := by decide +kernel
theorem dX12_digest_210 : decode cX12_digest 210 = .ok (.invokevirtual 247, 3) := by decide +kernel
theorem dX12_digest_213 : decode cX12_digest 213 = .ok (.i2l, 1) := by decide +kernel
theorem dX12_digest_214 : decode cX12_digest 214 = .ok (.ladd, 1) := by decide +kernel
theorem dX12_digest_215 : decode cX12_digest 215 = .ok (.lstore_n 1, 1) := by decide +kernel
theorem dX12_digest_216 : decode cX12_digest 216 = .ok (.iinc 3 1, 3) := by decide +kernel
theorem dX12_digest_219 : decode cX12_digest 219 = .ok (.goto (-93), 3) := by decide +kernel
theorem dX12_digest_222 : decode cX12_digest 222 = .ok (.ldc2_w 383, 3) := by decide +kernel
theorem dX12_digest_225 : decode cX12_digest 225 = .ok (.lload_n 1, 1) := by decide +kernel
theorem dX12_digest_226 : decode cX12_digest 226 = .ok (.lmul, 1) := by decide +kernel
theorem dX12_digest_227 : decode cX12_digest 227 = .ok (.aload_n 0, 1) := by decide +kernel
theorem dX12_digest_228 : decode cX12_digest 228 = .ok (.invokevirtual 234, 3) := by decide +kernel
theorem dX12_digest_231 : decode cX12_digest 231 = .ok (.i2l, 1) := by decide +kernel
theorem dX12_digest_232 : decode cX12_digest 232 = .ok (.ladd, 1) := by decide +kernel
theorem dX12_digest_233 : decode cX12_digest 233 = .ok (.lstore_n 1, 1) := by decide +kernel
theorem dX12_digest_234 : decode cX12_digest 234 = .ok (.aload_n 0, 1) := by decide +kernel
theorem dX12_digest_235 : decode cX12_digest 235 = .ok (.invokevirtual 291, 3) := by decide +kernel
theorem dX12_digest_238 : decode cX12_digest 238 = .ok (.aload_n 0, 1) := by decide +kernel
theorem dX12_digest_239 : decode cX12_digest 239 = .ok (.invokevirtual 294, 3) := by decide +kernel
theorem dX12_digest_242 : decode cX12_digest 242 = .ok (.ldc2_w 383, 3) := by decide +kernel
theorem dX12_digest_245 : decode cX12_digest 245 = .ok (.lload_n 1, 1) := by decide +kernel
theorem dX12_digest_246 : decode cX12_digest 246 = .ok (.lmul, 1) := by decide +kernel
theorem dX12_digest_247 : decode cX12_digest 247 = .ok (.aload_n 0, 1) := by decide +kernel
theorem dX12_digest_248 : decode cX12_digest 248 = .ok (.getfield 285, 3) := by decide +kernel
theorem dX12_digest_251 : decode cX12_digest 251 = .ok (.i2l, 1) := by decide +kernel
theorem dX12_digest_252 : decode cX12_digest 252 = .ok (.ladd, 1) := by decide +kernel
theorem dX12_digest_253 : decode cX12_digest 253 = .ok (.lstore_n 1, 1) := by decide +kernel
theorem dX12_digest_254 : decode cX12_digest 254 = .ok (.ldc2_w 383, 3) := by decide +kernel
theorem dX12_digest_257 : decode cX12_digest 257 = .ok (.lload_n 1, 1) := by decide +kernel
theorem dX12_digest_258 : decode cX12_digest 258 = .ok (.lmul, 1) := by decide +kernel
theorem dX12_digest_259 : decode cX12_digest 259 = .ok (.aload_n 0, 1) := by decide +kernel
theorem dX12_digest_260 : decode cX12_digest 260 = .ok (.getfield 288, 3) := by decide +kernel
theorem dX12_digest_263 : decode cX12_digest 263 = .ok (.i2l, 1) := by decide +kernel
theorem dX12_digest_264 : decode cX12_digest 264 = .ok (.ladd, 1) := by decide +kernel
theorem dX12_digest_265 : decode cX12_digest 265 = .ok (.lstore_n 1, 1) := by decide +kernel
theorem dX12_digest_266 : decode cX12_digest 266 = .ok (.ldc2_w 383, 3) := by decide +kernel
theorem dX12_digest_269 : decode cX12_digest 269 = .ok (.lload_n 1, 1) := by decide +kernel
theorem dX12_digest_270 : decode cX12_digest 270 = .ok (.lmul, 1) := by decide +kernel
theorem dX12_digest_271 : decode cX12_digest 271 = .ok (.aload_n 0, 1) := by decide +kernel
theorem dX12_digest_272 : decode cX12_digest 272 = .ok (.iconst 0, 1) := by decide +kernel
theorem dX12_digest_273 : decode cX12_digest 273 = .ok (.invokevirtual 369, 3) := by decide +kernel
theorem dX12_digest_276 : decode cX12_digest 276 = .ok (.i2l, 1) := by decide +kernel
theorem dX12_digest_277 : decode cX12_digest 277 = .ok (.ladd, 1) := by decide +kernel
theorem dX12_digest_278 : decode cX12_digest 278 = .ok (.lreturn, 1) := by decide +kernel
