theorem dX8_init_0 : decode cX8_init 0 = .ok (.aload_n 0, 1) := by decide +kernel
theorem dX8_init_1 : decode cX8_init 1 = .ok (.invokespecial 1, 3) := by decide +kernel
theorem dX8_init_4 : decode cX8_init 4 = .ok (.aload_n 0, 1) := by decide +kernel
theorem dX8_init_5 : decode cX8_init 5 = .ok (.bipush 30, 2) := by decide +kernel
theorem dX8_init_7 : decode cX8_init 7 = .ok (.newarray .boolean, 2) := by decide +kernel
theorem dX8_init_9 : decode cX8_init 9 = .ok (.putfield 9, 3) := by decide +kernel
theorem dX8_init_12 : decode cX8_init 12 = .ok (.aload_n 0, 1) := by decide +kernel
theorem dX8_init_13 : decode cX8_init 13 = .ok (.iconst 3, 1) := by decide +kernel
theorem dX8_init_14 : decode cX8_init 14 = .ok (.bipush 30, 2) := by decide +kernel
theorem dX8_init_16 : decode cX8_init 16 = .ok (.multianewarray 13 2, 4) := by decide +kernel
theorem dX8_init_20 : decode cX8_init 20 = .ok (.putfield 15, 3) := by decide +kernel
theorem dX8_init_23 : decode cX8_init 23 = .ok (.aload_n 0, 1) := by decide +kernel
theorem dX8_init_24 : decode cX8_init 24 = .ok (.iconst 3, 1) := by decide +kernel
theorem dX8_init_25 : decode cX8_init 25 = .ok (.bipush 30, 2) := by decide +kernel
theorem dX8_init_27 : decode cX8_init 27 = .ok (.multianewarray 18 2, 4) := by decide +kernel
theorem dX8_init_31 : decode cX8_init 31 = .ok (.putfield 20, 3) := by decide +kernel
theorem dX8_init_34 : decode cX8_init 34 = .ok (.aload_n 0, 1) := by decide +kernel
theorem dX8_init_35 : decode cX8_init 35 = .ok (.iconst 3, 1) := by decide +kernel
theorem dX8_init_36 : decode cX8_init 36 = .ok (.bipush 30, 2) := by decide +kernel
theorem dX8_init_38 : decode cX8_init 38 = .ok (.multianewarray 18 2, 4) := by decide +kernel
theorem dX8_init_42 : decode cX8_init 42 = .ok (.putfield 23, 3) := by decide +kernel
theorem dX8_init_45 : decode cX8_init 45 = .ok (.aload_n 0, 1) := by decide +kernel
theorem dX8_init_46 : decode cX8_init 46 = .ok (.iconst 3, 1) := by decide +kernel
theorem dX8_init_47 : decode cX8_init 47 = .ok (.bipush 30, 2) := by decide +kernel
theorem dX8_init_49 : decode cX8_init 49 = .ok (.multianewarray 18 2, 4) := by decide +kernel
theorem dX8_init_53 : decode cX8_init 53 = .ok (.putfield 26, 3) := by decide +kernel
theorem dX8_init_56 : decode cX8_init 56 = .ok (.aload_n 0, 1) := by decide +kernel
theorem dX8_init_57 : decode cX8_init 57 = .ok (.iconst (-1), 1) := by decide +kernel
theorem dX8_init_58 : decode cX8_init 58 = .ok (.putfield 29, 3) := by decide +kernel
theorem dX8_init_61 : decode cX8_init 61 = .ok (.aload_n 0, 1) := by decide +kernel
theorem dX8_init_62 : decode cX8_init 62 = .ok (.bipush 30, 2) := by decide +kernel
theorem dX8_init_64 : decode cX8_init 64 = .ok (.newarray .boolean, 2) := by decide +kernel
theorem dX8_init_66 : decode cX8_init 66 = .ok (.putfield 33, 3) := by decide +kernel
theorem dX8_init_69 : decode cX8_init 69 = .ok (.aload_n 0, 1) := by decide +kernel
theorem dX8_init_70 : decode cX8_init 70 = .ok (.bipush 6, 2) := by decide +kernel
theorem dX8_init_72 : decode cX8_init 72 = .ok (.newarray .boolean, 2) := by decide +kernel
theorem dX8_init_74 : decode cX8_init 74 = .ok (.putfield 36, 3) := by decide +kernel
theorem dX8_init_77 : decode cX8_init 77 = .ok (.aload_n 0, 1) := by decide +kernel
theorem dX8_init_78 : decode cX8_init 78 = .ok (.bipush 6, 2) := by decide +kernel
theorem dX8_init_80 : decode cX8_init 80 = .ok (.newarray .int, 2) := by decide +kernel
theorem dX8_init_82 : decode cX8_init 82 = .ok (.putfield 39, 3) := by decide +kernel
theorem dX8_init_85 : decode cX8_init 85 = .ok (.aload_n 0, 1) := by decide +kernel
theorem dX8_init_86 : decode cX8_init 86 = .ok (.bipush 6, 2) := by decide +kernel
theorem dX8_init_88 : decode cX8_init 88 = .ok (.bipush 8, 2) := by decide +kernel
theorem dX8_init_90 : decode cX8_init 90 = .ok (.multianewarray 18 2, 4) := by decide +kernel
theorem dX8_init_94 : decode cX8_init 94 = .ok (.putfield 43, 3) := by decide +kernel
theorem dX8_init_97 : decode cX8_init 97 = .ok (.aload_n 0, 1) := by decide +kernel
theorem dX8_init_98 : decode cX8_init 98 = .ok (.bipush 40, 2) := by decide +kernel
theorem dX8_init_100 : decode cX8_init 100 = .ok (.newarray .int, 2) := by decide +kernel
theorem dX8_init_102 : decode cX8_init 102 = .ok (.putfield 46, 3) := by decide +kernel
theorem dX8_init_105 : decode cX8_init 105 = .ok (.aload_n 0, 1) := by decide +kernel
theorem dX8_init_106 : decode cX8_init 106 = .ok (.bipush 30, 2) := by decide +kernel
theorem dX8_init_108 : decode cX8_init 108 = .ok (.newarray .int, 2) := by decide +kernel
theorem dX8_init_110 : decode cX8_init 110 = .ok (.putfield 49, 3) := by decide +kernel
theorem dX8_init_113 : decode cX8_init 113 = .ok (.aload_n 0, 1) := by decide +kernel
theorem dX8_init_114 : decode cX8_init 114 = .ok (.bipush 31, 2) := by decide +kernel
theorem dX8_init_116 : decode cX8_init 116 = .ok (.newarray .boolean, 2) := by decide +kernel
theorem dX8_init_118 : decode cX8_init 118 = .ok (.putfield 52, 3) := by decide +kernel
theorem dX8_init_121 : decode cX8_init 121 = .ok (.aload_n 0, 1) := by decide +kernel
theorem dX8_init_122 : decode cX8_init 122 = .ok (.bipush 30, 2) := by decide +kernel
theorem dX8_init_124 : decode cX8_init 124 = .ok (.newarray .boolean, 2) := by decide +kernel
theorem dX8_init_126 : decode cX8_init 126 = .ok (.putfield 55, 3) := by decide +kernel
theorem dX8_init_129 : decode cX8_init 129 = .ok (.aload_n 0, 1) := by decide +kernel
theorem dX8_init_130 : decode cX8_init 130 = .ok (.sipush 200, 3) := by decide +kernel
theorem dX8_init_133 : decode cX8_init 133 = .ok (.newarray .int, 2) := by decide +kernel
theorem dX8_init_135 : decode cX8_init 135 = .ok (.putfield 58, 3) := by decide +kernel
theorem dX8_init_138 : decode cX8_init 138 = .ok (.aload_n 0, 1) := by decide +kernel
theorem dX8_init_139 : decode cX8_init 139 = .ok (.sipush 200, 3) := by decide +kernel
theorem dX8_init_142 : decode cX8_init 142 = .ok (.newarray .int, 2) := by decide +kernel
theorem dX8_init_144 : decode cX8_init 144 = .ok (.putfield 61, 3) := by decide +kernel
theorem dX8_init_147 : decode cX8_init 147 = .ok (.aload_n 0, 1) := by decide +kernel
theorem dX8_init_148 : decode cX8_init 148 = .ok (.bipush 30, 2) := by decide +kernel
theorem dX8_init_150 : decode cX8_init 150 = .ok (.newarray .boolean, 2) := by decide +kernel
theorem dX8_init_152 : decode cX8_init 152 = .ok (.putfield 64, 3) := by decide +kernel
theorem dX8_init_155 : decode cX8_init 155 = .ok (.aload_n 0, 1) := by decide +kernel
theorem dX8_init_156 : decode cX8_init 156 = .ok (.bipush 30, 2) := by decide +kernel
theorem dX8_init_158 : decode cX8_init 158 = .ok (.newarray .boolean, 2) := by decide +kernel
theorem dX8_init_160 : decode cX8_init 160 = .ok (.putfield 67, 3) := by decide +kernel
theorem dX8_init_163 : decode cX8_init 163 = .ok (.aload_n 0, 1) := by decide +kernel
theorem dX8_init_164 : decode cX8_init 164 = .ok (.bipush 30, 2) := by decide +kernel
theorem dX8_init_166 : decode cX8_init 166 = .ok (.newarray .int, 2) := by decide +kernel
theorem dX8_init_168 : decode cX8_init 168 = .ok (.putfield 70, 3) := by decide +kernel
theorem dX8_init_171 : decode cX8_init 171 = .ok (.aload_n 0, 1) := by decide +kernel
theorem dX8_init_172 : decode cX8_init 172 = .ok (.bipush 30, 2) := by decide +kernel
theorem dX8_init_174 : decode cX8_init 174 = .ok (.newarray .int, 2) := by decide +kernel
theorem dX8_init_176 : decode cX8_init 176 = .ok (.putfield 73, 3) := by decide +kernel
theorem dX8_init_179 : decode cX8_init 179 = .ok (.aload_n 0, 1) := by decide +kernel
theorem dX8_init_180 : decode cX8_init 180 = .ok (.bipush 30, 2) := by decide +kernel
theorem dX8_init_182 : decode cX8_init 182 = .ok (.newarray .int, 2) := by decide +kernel
theorem dX8_init_184 : decode cX8_init 184 = .ok (.putfield 76, 3) := by decide +kernel
theorem dX8_init_187 : decode cX8_init 187 = .ok (.aload_n 0, 1) := by decide +kernel
theorem dX8_init_188 : decode cX8_init 188 = .ok (.bipush 120, 2) := by decide +kernel
theorem dX8_init_190 : decode cX8_init 190 = .ok (.newarray .int, 2) := by decide +kernel
theorem dX8_init_192 : decode cX8_init 192 = .ok (.putfield 79, 3) := by decide +kernel
theorem dX8_init_195 : decode cX8_init 195 = .ok (.aload_n 0, 1) := by decide +kernel
theorem dX8_init_196 : decode cX8_init 196 = .ok (.bipush 120, 2) := by decide +kernel
theorem dX8_init_198 : decode cX8_init 198 = .ok (.newarray .int, 2) := by decide +kernel
theorem dX8_init_200 : decode cX8_init 200 = .ok (.putfield 82, 3) := by decide +kernel
theorem dX8_init_203 : decode cX8_init 203 = .ok (.aload_n 0, 1) := by decide +kernel
theorem dX8_init_204 : decode cX8_init 204 = .ok (.iconst 3, 1) := by decide +kernel
theorem dX8_init_205 : decode cX8_init 205 = .ok (.bipush 30, 2) := by decide +kernel
theorem dX8_init_207 : decode cX8_init 207 = .ok (.multianewarray 13 2, 4) := by decide +kernel
theorem dX8_init_211 : decode cX8_init 211 = .ok (.putfield 85, 3) := by decide +kernel
theorem dX8_init_214 : decode cX8_init 214 = .ok (.aload_n 0, 1) := by decide +kernel
theorem dX8_init_215 : decode cX8_init 215 = .ok (.iconst 3, 1) := by decide +kernel
theorem dX8_init_216 : decode cX8_init 216 = .ok (.bipush 30, 2) := by decide +kernel
theorem dX8_init_218 : decode cX8_init 218 = .ok (.multianewarray 18 2, 4) := by decide +kernel
theorem dX8_init_222 : decode cX8_init 222 = .ok (.putfield 88, 3) := by decide +kernel
theorem dX8_init_225 : decode cX8_init 225 = .ok (.aload_n 0, 1) := by decide +kernel
theorem dX8_init_226 : decode cX8_init 226 = .ok (.iconst 3, 1) := by decide +kernel
theorem dX8_init_227 : decode cX8_init 227 = .ok (.bipush 30, 2) := by decide +kernel
theorem dX8_init_229 : decode cX8_init 229 = .ok (.multianewarray 18 2, 4) := by decide +kernel
theorem dX8_init_233 : decode cX8_init 233 = .ok (.putfield 91, 3) := by decide +kernel
theorem dX8_init_236 : decode cX8_init 236 = .ok (.aload_n 0, 1) := by decide +kernel
theorem dX8_init_237 : decode cX8_init 237 = .ok (.iconst 3, 1) := by decide +kernel
theorem dX8_init_238 : decode cX8_init 238 = .ok (.bipush 30, 2) := by decide +kernel
theorem dX8_init_240 : decode cX8_init 240 = .ok (.multianewarray 18 2, 4) := by decide +kernel
theorem dX8_init_244 : decode cX8_init 244 = .ok (.putfield 94, 3) := by decide +kernel
theorem dX8_init_247 : decode cX8_init 247 = .ok (.aload_n 0, 1) := by decide +kernel
theorem dX8_init_248 : decode cX8_init 248 = .ok (.bipush 6, 2) := by decide +kernel
theorem dX8_init_250 : decode cX8_init 250 = .ok (.newarray .int, 2) := by decide +kernel
theorem dX8_init_252 : decode cX8_init 252 = .ok (.putfield 97, 3) := by decide +kernel
theorem dX8_init_255 : decode cX8_init 255 = .ok (.aload_n 0, 1) := by decide +kernel
theorem dX8_init_256 : decode cX8_init 256 = .ok (.iconst 5, 1) := by decide +kernel
theorem dX8_init_257 : decode cX8_init 257 = .ok (.bipush 30, 2) := by decide +kernel
theorem dX8_init_259 : decode cX8_init 259 = .ok (.multianewarray 13 2, 4) := by decide +kernel
theorem dX8_init_263 : decode cX8_init 263 = .ok (.putfield 100, 3) := by decide +kernel
theorem dX8_init_266 : decode cX8_init 266 = .ok (.aload_n 0, 1) := by decide +kernel
theorem dX8_init_267 : decode cX8_init 267 = .ok (.iconst 3, 1) := by decide +kernel
theorem dX8_init_268 : decode cX8_init 268 = .ok (.bipush 30, 2) := by decide +kernel
theorem dX8_init_270 : decode cX8_init 270 = .ok (.multianewarray 18 2, 4) := by decide +kernel
theorem dX8_init_274 : decode cX8_init 274 = .ok (.putfield 103, 3) := by decide +kernel
theorem dX8_init_277 : decode cX8_init 277 = .ok (.aload_n 0, 1) := by decide +kernel
theorem dX8_init_278 : decode cX8_init 278 = .ok (.iconst 3, 1) := by decide +kernel
theorem dX8_init_279 : decode cX8_init 279 = .ok (.bipush 30, 2) := by decide +kernel
theorem dX8_init_281 : decode cX8_init 281 = .ok (.multianewarray 18 2, 4) := by decide +kernel
theorem dX8_init_285 : decode cX8_init 285 = .ok (.putfield 106, 3) := by decide +kernel
theorem dX8_init_288 : decode cX8_init 288 = .ok (.aload_n 0, 1) := by decide +kernel
theorem dX8_init_289 : decode cX8_init 289 = .ok (.iconst 3, 1) := by decide +kernel
theorem dX8_init_290 : decode cX8_init 290 = .ok (.bipush 30, 2) := by decide +kernel
theorem dX8_init_292 : decode cX8_init 292 = .ok (.multianewarray 18 2, 4) := by decide +kernel
theorem dX8_init_296 : decode cX8_init 296 = .ok (.putfield 109, 3) := by decide +kernel
theorem dX8_init_299 : decode cX8_init 299 = .ok (.aload_n 0, 1) := by decide +kernel
theorem dX8_init_300 : decode cX8_init 300 = .ok (.bipush 6, 2) := by decide +kernel
theorem dX8_init_302 : decode cX8_init 302 = .ok (.bipush 8, 2) := by decide +kernel
theorem dX8_init_304 : decode cX8_init 304 = .ok (.multianewarray 18 2, 4) := by decide +kernel
theorem dX8_init_308 : decode cX8_init 308 = .ok (.putfield 112, 3) := by decide +kernel
theorem dX8_init_311 : decode cX8_init 311 = .ok (.aload_n 0, 1) := by decide +kernel
theorem dX8_init_312 : decode cX8_init 312 = .ok (.bipush 6, 2) := by decide +kernel
theorem dX8_init_314 : decode cX8_init 314 = .ok (.newarray .int, 2) := by decide +kernel
theorem dX8_init_316 : decode cX8_init 316 = .ok (.putfield 115, 3) := by decide +kernel
theorem dX8_init_319 : decode cX8_init 319 = .ok (.aload_n 0, 1) := by decide +kernel
theorem dX8_init_320 : decode cX8_init 320 = .ok (.iconst 4, 1) := by decide +kernel
theorem dX8_init_321 : decode cX8_init 321 = .ok (.newarray .int, 2) := by decide +kernel
theorem dX8_init_323 : decode cX8_init 323 = .ok (.dup, 1) := by decide +kernel
theorem dX8_init_324 : decode cX8_init 324 = .ok (.iconst 0, 1) := by decide +kernel
theorem dX8_init_325 : decode cX8_init 325 = .ok (.iconst (-1), 1) := by decide +kernel
theorem dX8_init_326 : decode cX8_init 326 = .ok (.iastore, 1) := by decide +kernel
theorem dX8_init_327 : decode cX8_init 327 = .ok (.dup, 1) := by decide +kernel
theorem dX8_init_328 : decode cX8_init 328 = .ok (.iconst 1, 1) := by decide +kernel
theorem dX8_init_329 : decode cX8_init 329 = .ok (.iconst (-1), 1) := by decide +kernel
theorem dX8_init_330 : decode cX8_init 330 = .ok (.iastore, 1) := by decide +kernel
theorem dX8_init_331 : decode cX8_init 331 = .ok (.dup, 1) := by decide +kernel
theorem dX8_init_332 : decode cX8_init 332 = .ok (.iconst 2, 1) := by decide +kernel
theorem dX8_init_333 : decode cX8_init 333 = .ok (.iconst (-1), 1) := by decide +kernel
theorem dX8_init_334 : decode cX8_init 334 = .ok (.iastore, 1) := by decide +kernel
theorem dX8_init_335 : decode cX8_init 335 = .ok (.dup, 1) := by decide +kernel
theorem dX8_init_336 : decode cX8_init 336 = .ok (.iconst 3, 1) := by decide +kernel
theorem dX8_init_337 : decode cX8_init 337 = .ok (.iconst (-1), 1) := by decide +kernel
theorem dX8_init_338 : decode cX8_init 338 = .ok (.iastore, 1) := by decide +kernel
theorem dX8_init_339 : decode cX8_init 339 = .ok (.putfield 118, 3) := by decide +kernel
theorem dX8_init_342 : decode cX8_init 342 = .ok (.aload_n 0, 1) := by decide +kernel
theorem dX8_init_343 : decode cX8_init 343 = .ok (.iconst 4, 1) := by decide +kernel
theorem dX8_init_344 : decode cX8_init 344 = .ok (.newarray .int, 2) := by decide +kernel
theorem dX8_init_346 : decode cX8_init 346 = .ok (.putfield 121, 3) := by decide +kernel
theorem dX8_init_349 : decode cX8_init 349 = .ok (.aload_n 0, 1) := by decide +kernel
theorem dX8_init_350 : decode cX8_init 350 = .ok (.iconst 4, 1) := by decide +kernel
theorem dX8_init_351 : decode cX8_init 351 = .ok (.bipush 40, 2) := by decide +kernel
theorem dX8_init_353 : decode cX8_init 353 = .ok (.multianewarray 18 2, 4) := by decide +kernel
theorem dX8_init_357 : decode cX8_init 357 = .ok (.putfield 124, 3) := by decide +kernel
theorem dX8_init_360 : decode cX8_init 360 = .ok (.aload_n 0, 1) := by decide +kernel
theorem dX8_init_361 : decode cX8_init 361 = .ok (.bipush 40, 2) := by decide +kernel
theorem dX8_init_363 : decode cX8_init 363 = .ok (.newarray .int, 2) := by decide +kernel
theorem dX8_init_365 : decode cX8_init 365 = .ok (.putfield 127, 3) := by decide +kernel
theorem dX8_init_368 : decode cX8_init 368 = .ok (.return_, 1) := by decide +kernel
theorem dX8_in_0 : decode cX8_in 0 = .ok (.iload_n 0, 1) := by decide +kernel
theorem dX8_in_1 : decode cX8_in 1 = .ok (.iload_n 1, 1) := by decide +kernel
theorem dX8_in_2 : decode cX8_in 2 = .ok (.if_icmp .lt 12, 3) := by decide +kernel
theorem dX8_in_5 : decode cX8_in 5 = .ok (.iload_n 0, 1) := by decide +kernel
theorem dX8_in_6 : decode cX8_in 6 = .ok (.iload_n 2, 1) := by decide +kernel
theorem dX8_in_7 : decode cX8_in 7 = .ok (.if_icmp .gt 7, 3) := by decide +kernel
theorem dX8_in_10 : decode cX8_in 10 = .ok (.iconst 1, 1) := by decide +kernel
theorem dX8_in_11 : decode cX8_in 11 = .ok (.goto 4, 3) := by decide +kernel
theorem dX8_in_14 : decode cX8_in 14 = .ok (.iconst 0, 1) := by decide +kernel
theorem dX8_in_15 : decode cX8_in 15 = .ok (.ireturn, 1) := by decide +kernel
theorem dX8_isThing_0 : decode cX8_isThing 0 = .ok (.iload_n 1, 1) := by decide +kernel
theorem dX8_isThing_1 : decode cX8_isThing 1 = .ok (.iconst 0, 1) := by decide +kernel
theorem dX8_isThing_2 : decode cX8_isThing 2 = .ok (.aload_n 0, 1) := by decide +kernel
theorem dX8_isThing_3 : decode cX8_isThing 3 = .ok (.getfield 130, 3) := by decide +kernel
theorem dX8_isThing_6 : decode cX8_isThing 6 = .ok (.iconst 1, 1) := by decide +kernel
theorem dX8_isThing_7 : decode cX8_isThing 7 = .ok (.isub, 1) := by decide +kernel
theorem dX8_isThing_8 : decode cX8_isThing 8 = .ok (.invokestatic 133, 3) := by decide +kernel
theorem dX8_isThing_11 : decode cX8_isThing 11 = .ok (.ireturn, 1) := by decide +kernel
theorem dX8_isSide_0 : decode cX8_isSide 0 = .ok (.iload_n 0, 1) := by decide +kernel
theorem dX8_isSide_1 : decode cX8_isSide 1 = .ok (.iconst 0, 1) := by decide +kernel
theorem dX8_isSide_2 : decode cX8_isSide 2 = .ok (.iconst 1, 1) := by decide +kernel
theorem dX8_isSide_3 : decode cX8_isSide 3 = .ok (.invokestatic 133, 3) := by decide +kernel
theorem dX8_isSide_6 : decode cX8_isSide 6 = .ok (.ireturn, 1) := by decide +kernel
theorem dX8_isPlace_0 : decode cX8_isPlace 0 = .ok (.iload_n 0, 1) := by decide +kernel
theorem dX8_isPlace_1 : decode cX8_isPlace 1 = .ok (.iconst 0, 1) := by decide +kernel
theorem dX8_isPlace_2 : decode cX8_isPlace 2 = .ok (.iconst 2, 1) := by decide +kernel
theorem dX8_isPlace_3 : decode cX8_isPlace 3 = .ok (.invokestatic 133, 3) := by decide +kernel
theorem dX8_isPlace_6 : decode cX8_isPlace 6 = .ok (.ireturn, 1) := by decide +kernel
theorem dX8_isName_0 : decode cX8_isName 0 = .ok (.iload_n 0, 1) := by decide +kernel
theorem dX8_isName_1 : decode cX8_isName 1 = .ok (.iconst 0, 1) := by decide +kernel
theorem dX8_isName_2 : decode cX8_isName 2 = .ok (.bipush 49, 2) := by decide +kernel
theorem dX8_isName_4 : decode cX8_isName 4 = .ok (.invokestatic 133, 3) := by decide +kernel
theorem dX8_isName_7 : decode cX8_isName 7 = .ok (.ireturn, 1) := by decide +kernel
theorem dX8_isFolderOn_0 : decode cX8_isFolderOn 0 = .ok (.iload_n 2, 1) := by decide +kernel
theorem dX8_isFolderOn_1 : decode cX8_isFolderOn 1 = .ok (.iconst (-1), 1) := by decide +kernel
theorem dX8_isFolderOn_2 : decode cX8_isFolderOn 2 = .ok (.if_icmp .eq 31, 3) := by decide +kernel
theorem dX8_isFolderOn_5 : decode cX8_isFolderOn 5 = .ok (.aload_n 0, 1) := by decide +kernel
theorem dX8_isFolderOn_6 : decode cX8_isFolderOn 6 = .ok (.iload_n 2, 1) := by decide +kernel
theorem dX8_isFolderOn_7 : decode cX8_isFolderOn 7 = .ok (.invokevirtual 137, 3) := by decide +kernel
theorem dX8_isFolderOn_10 : decode cX8_isFolderOn 10 = .ok (.ifCond .eq 27, 3) := by decide +kernel
theorem dX8_isFolderOn_13 : decode cX8_isFolderOn 13 = .ok (.aload_n 0, 1) := by decide +kernel
theorem dX8_isFolderOn_14 : decode cX8_isFolderOn 14 = .ok (.getfield 15, 3) := by decide +kernel
theorem dX8_isFolderOn_17 : decode cX8_isFolderOn 17 = .ok (.iload_n 1, 1) := by decide +kernel
theorem dX8_isFolderOn_18 : decode cX8_isFolderOn 18 = .ok (.aaload, 1) := by decide +kernel
theorem dX8_isFolderOn_19 : decode cX8_isFolderOn 19 = .ok (.iload_n 2, 1) := by decide +kernel
theorem dX8_isFolderOn_20 : decode cX8_isFolderOn 20 = .ok (.baload, 1) := by decide +kernel
theorem dX8_isFolderOn_21 : decode cX8_isFolderOn 21 = .ok (.ifCond .eq 16, 3) := by decide +kernel
theorem dX8_isFolderOn_24 : decode cX8_isFolderOn 24 = .ok (.aload_n 0, 1) := by decide +kernel
theorem dX8_isFolderOn_25 : decode cX8_isFolderOn 25 = .ok (.getfield 9, 3) := by decide +kernel
theorem dX8_isFolderOn_28 : decode cX8_isFolderOn 28 = .ok (.iload_n 2, 1) := by decide +kernel
theorem dX8_isFolderOn_29 : decode cX8_isFolderOn 29 = .ok (.baload, 1) := by decide +kernel
theorem dX8_isFolderOn_30 : decode cX8_isFolderOn 30 = .ok (.ifCond .eq 7, 3) := by decide +kernel
theorem dX8_isFolderOn_33 : decode cX8_isFolderOn 33 = .ok (.iconst 1, 1) := by decide +kernel
theorem dX8_isFolderOn_34 : decode cX8_isFolderOn 34 = .ok (.goto 4, 3) := by decide +kernel
theorem dX8_isFolderOn_37 : decode cX8_isFolderOn 37 = .ok (.iconst 0, 1) := by decide +kernel
theorem dX8_isFolderOn_38 : decode cX8_isFolderOn 38 = .ok (.ireturn, 1) := by decide +kernel
theorem dX8_found_0 : decode cX8_found 0 = .ok (.iconst 0, 1) := by decide +kernel
theorem dX8_found_1 : decode cX8_found 1 = .ok (.istore 4, 2) := by decide +kernel
theorem dX8_found_3 : decode cX8_found 3 = .ok (.iload 4, 2) := by decide +kernel
theorem dX8_found_5 : decode cX8_found 5 = .ok (.aload_n 0, 1) := by decide +kernel
theorem dX8_found_6 : decode cX8_found 6 = .ok (.getfield 130, 3) := by decide +kernel
theorem dX8_found_9 : decode cX8_found 9 = .ok (.if_icmp .ge 50, 3) := by decide +kernel
theorem dX8_found_12 : decode cX8_found 12 = .ok (.aload_n 0, 1) := by decide +kernel
theorem dX8_found_13 : decode cX8_found 13 = .ok (.getfield 15, 3) := by decide +kernel
theorem dX8_found_16 : decode cX8_found 16 = .ok (.iload_n 1, 1) := by decide +kernel
theorem dX8_found_17 : decode cX8_found 17 = .ok (.aaload, 1) := by decide +kernel
theorem dX8_found_18 : decode cX8_found 18 = .ok (.iload 4, 2) := by decide +kernel
theorem dX8_found_20 : decode cX8_found 20 = .ok (.baload, 1) := by decide +kernel
theorem dX8_found_21 : decode cX8_found 21 = .ok (.ifCond .eq 32, 3) := by decide +kernel
theorem dX8_found_24 : decode cX8_found 24 = .ok (.aload_n 0, 1) := by decide +kernel
theorem dX8_found_25 : decode cX8_found 25 = .ok (.getfield 20, 3) := by decide +kernel
theorem dX8_found_28 : decode cX8_found 28 = .ok (.iload_n 1, 1) := by decide +kernel
theorem dX8_found_29 : decode cX8_found 29 = .ok (.aaload, 1) := by decide +kernel
theorem dX8_found_30 : decode cX8_found 30 = .ok (.iload 4, 2) := by decide +kernel
theorem dX8_found_32 : decode cX8_found 32 = .ok (.iaload, 1) := by decide +kernel
theorem dX8_found_33 : decode cX8_found 33 = .ok (.iload_n 2, 1) := by decide +kernel
theorem dX8_found_34 : decode cX8_found 34 = .ok (.if_icmp .ne 19, 3) := by decide +kernel
theorem dX8_found_37 : decode cX8_found 37 = .ok (.aload_n 0, 1) := by decide +kernel
theorem dX8_found_38 : decode cX8_found 38 = .ok (.getfield 23, 3) := by decide +kernel
theorem dX8_found_41 : decode cX8_found 41 = .ok (.iload_n 1, 1) := by decide +kernel
theorem dX8_found_42 : decode cX8_found 42 = .ok (.aaload, 1) := by decide +kernel
theorem dX8_found_43 : decode cX8_found 43 = .ok (.iload 4, 2) := by decide +kernel
theorem dX8_found_45 : decode cX8_found 45 = .ok (.iaload, 1) := by decide +kernel
theorem dX8_found_46 : decode cX8_found 46 = .ok (.iload_n 3, 1) := by decide +kernel
theorem dX8_found_47 : decode cX8_found 47 = .ok (.if_icmp .ne 6, 3) := by decide +kernel
theorem dX8_found_50 : decode cX8_found 50 = .ok (.iload 4, 2) := by decide +kernel
theorem dX8_found_52 : decode cX8_found 52 = .ok (.ireturn, 1) := by decide +kernel
theorem dX8_found_53 : decode cX8_found 53 = .ok (.iinc 4 1, 3) := by decide +kernel
theorem dX8_found_56 : decode cX8_found 56 = .ok (.goto (-53), 3) := by decide +kernel
theorem dX8_found_59 : decode cX8_found 59 = .ok (.iconst (-1), 1) := by decide +kernel
theorem dX8_found_60 : decode cX8_found 60 = .ok (.ireturn, 1) := by decide +kernel
theorem dX8_deepIn_0 : decode cX8_deepIn 0 = .ok (.iconst 0, 1) := by decide +kernel
theorem dX8_deepIn_1 : decode cX8_deepIn 1 = .ok (.istore 4, 2) := by decide +kernel
theorem dX8_deepIn_3 : decode cX8_deepIn 3 = .ok (.iload_n 2, 1) := by decide +kernel
theorem dX8_deepIn_4 : decode cX8_deepIn 4 = .ok (.istore 5, 2) := by decide +kernel
theorem dX8_deepIn_6 : decode cX8_deepIn 6 = .ok (.iload 5, 2) := by decide +kernel
theorem dX8_deepIn_8 : decode cX8_deepIn 8 = .ok (.iconst (-1), 1) := by decide +kernel
theorem dX8_deepIn_9 : decode cX8_deepIn 9 = .ok (.if_icmp .eq 26, 3) := by decide +kernel
theorem dX8_deepIn_12 : decode cX8_deepIn 12 = .ok (.iload 5, 2) := by decide +kernel
theorem dX8_deepIn_14 : decode cX8_deepIn 14 = .ok (.iload_n 3, 1) := by decide +kernel
theorem dX8_deepIn_15 : decode cX8_deepIn 15 = .ok (.if_icmp .eq 20, 3) := by decide +kernel
theorem dX8_deepIn_18 : decode cX8_deepIn 18 = .ok (.aload_n 0, 1) := by decide +kernel
theorem dX8_deepIn_19 : decode cX8_deepIn 19 = .ok (.getfield 20, 3) := by decide +kernel
theorem dX8_deepIn_22 : decode cX8_deepIn 22 = .ok (.iload_n 1, 1) := by decide +kernel
theorem dX8_deepIn_23 : decode cX8_deepIn 23 = .ok (.aaload, 1) := by decide +kernel
theorem dX8_deepIn_24 : decode cX8_deepIn 24 = .ok (.iload 5, 2) := by decide +kernel
theorem dX8_deepIn_26 : decode cX8_deepIn 26 = .ok (.iaload, 1) := by decide +kernel
theorem dX8_deepIn_27 : decode cX8_deepIn 27 = .ok (.istore 5, 2) := by decide +kernel
theorem dX8_deepIn_29 : decode cX8_deepIn 29 = .ok (.iinc 4 1, 3) := by decide +kernel
theorem dX8_deepIn_32 : decode cX8_deepIn 32 = .ok (.goto (-26), 3) := by decide +kernel
theorem dX8_deepIn_35 : decode cX8_deepIn 35 = .ok (.iload 5, 2) := by decide +kernel
theorem dX8_deepIn_37 : decode cX8_deepIn 37 = .ok (.iconst (-1), 1) := by decide +kernel
theorem dX8_deepIn_38 : decode cX8_deepIn 38 = .ok (.if_icmp .ne 7, 3) := by decide +kernel
theorem dX8_deepIn_41 : decode cX8_deepIn 41 = .ok (.iconst (-1), 1) := by decide +kernel
theorem dX8_deepIn_42 : decode cX8_deepIn 42 = .ok (.goto 5, 3) := by decide +kernel
theorem dX8_deepIn_45 : decode cX8_deepIn 45 = .ok (.iload 4, 2) := by decide +kernel
theorem dX8_deepIn_47 : decode cX8_deepIn 47 = .ok (.ireturn, 1) := by decide +kernel
theorem dX8_isInner_0 : decode cX8_isInner 0 = .ok (.aload_n 0, 1) := by decide +kernel
theorem dX8_isInner_1 : decode cX8_isInner 1 = .ok (.getfield 15, 3) := by decide +kernel
theorem dX8_isInner_4 : decode cX8_isInner 4 = .ok (.iload_n 1, 1) := by decide +kernel
theorem dX8_isInner_5 : decode cX8_isInner 5 = .ok (.aaload, 1) := by decide +kernel
theorem dX8_isInner_6 : decode cX8_isInner 6 = .ok (.iload_n 2, 1) := by decide +kernel
theorem dX8_isInner_7 : decode cX8_isInner 7 = .ok (.baload, 1) := by decide +kernel
theorem dX8_isInner_8 : decode cX8_isInner 8 = .ok (.ifCond .eq 23, 3) := by decide +kernel
theorem dX8_isInner_11 : decode cX8_isInner 11 = .ok (.iload_n 2, 1) := by decide +kernel
theorem dX8_isInner_12 : decode cX8_isInner 12 = .ok (.iload_n 3, 1) := by decide +kernel
theorem dX8_isInner_13 : decode cX8_isInner 13 = .ok (.if_icmp .eq 18, 3) := by decide +kernel
theorem dX8_isInner_16 : decode cX8_isInner 16 = .ok (.aload_n 0, 1) := by decide +kernel
theorem dX8_isInner_17 : decode cX8_isInner 17 = .ok (.iload_n 1, 1) := by decide +kernel
theorem dX8_isInner_18 : decode cX8_isInner 18 = .ok (.iload_n 2, 1) := by decide +kernel
theorem dX8_isInner_19 : decode cX8_isInner 19 = .ok (.iload_n 3, 1) := by decide +kernel
theorem dX8_isInner_20 : decode cX8_isInner 20 = .ok (.invokevirtual 141, 3) := by decide +kernel
theorem dX8_isInner_23 : decode cX8_isInner 23 = .ok (.iconst (-1), 1) := by decide +kernel
theorem dX8_isInner_24 : decode cX8_isInner 24 = .ok (.if_icmp .eq 7, 3) := by decide +kernel
theorem dX8_isInner_27 : decode cX8_isInner 27 = .ok (.iconst 1, 1) := by decide +kernel
theorem dX8_isInner_28 : decode cX8_isInner 28 = .ok (.goto 4, 3) := by decide +kernel
theorem dX8_isInner_31 : decode cX8_isInner 31 = .ok (.iconst 0, 1) := by decide +kernel
theorem dX8_isInner_32 : decode cX8_isInner 32 = .ok (.ireturn, 1) := by decide +kernel
theorem dX8_refuses_0 : decode cX8_refuses 0 = .ok (.aload_n 0, 1) := by decide +kernel
theorem dX8_refuses_1 : decode cX8_refuses 1 = .ok (.iload_n 1, 1) := by decide +kernel
theorem dX8_refuses_2 : decode cX8_refuses 2 = .ok (.putfield 145, 3) := by decide +kernel
theorem dX8_refuses_5 : decode cX8_refuses 5 = .ok (.aload_n 0, 1) := by decide +kernel
theorem dX8_refuses_6 : decode cX8_refuses 6 = .ok (.iload_n 2, 1) := by decide +kernel
theorem dX8_refuses_7 : decode cX8_refuses 7 = .ok (.putfield 29, 3) := by decide +kernel
theorem dX8_refuses_10 : decode cX8_refuses 10 = .ok (.aload_n 0, 1) := by decide +kernel
theorem dX8_refuses_11 : decode cX8_refuses 11 = .ok (.iload_n 3, 1) := by decide +kernel
theorem dX8_refuses_12 : decode cX8_refuses 12 = .ok (.putfield 148, 3) := by decide +kernel
theorem dX8_refuses_15 : decode cX8_refuses 15 = .ok (.iload_n 1, 1) := by decide +kernel
theorem dX8_refuses_16 : decode cX8_refuses 16 = .ok (.ireturn, 1) := by decide +kernel
theorem dX8_done_0 : decode cX8_done 0 = .ok (.aload_n 0, 1) := by decide +kernel
theorem dX8_done_1 : decode cX8_done 1 = .ok (.iconst 0, 1) := by decide +kernel
theorem dX8_done_2 : decode cX8_done 2 = .ok (.putfield 145, 3) := by decide +kernel
theorem dX8_done_5 : decode cX8_done 5 = .ok (.aload_n 0, 1) := by decide +kernel
theorem dX8_done_6 : decode cX8_done 6 = .ok (.iconst (-1), 1) := by decide +kernel
theorem dX8_done_7 : decode cX8_done 7 = .ok (.putfield 29, 3) := by decide +kernel
theorem dX8_done_10 : decode cX8_done 10 = .ok (.aload_n 0, 1) := by decide +kernel
theorem dX8_done_11 : decode cX8_done 11 = .ok (.iconst 0, 1) := by decide +kernel
theorem dX8_done_12 : decode cX8_done 12 = .ok (.putfield 148, 3) := by decide +kernel
theorem dX8_done_15 : decode cX8_done 15 = .ok (.iload_n 1, 1) := by decide +kernel
theorem dX8_done_16 : decode cX8_done 16 = .ok (.ireturn, 1) := by decide +kernel
theorem dX8_stand_0 : decode cX8_stand 0 = .ok (.aload_n 0, 1) := by decide +kernel
theorem dX8_stand_1 : decode cX8_stand 1 = .ok (.getfield 15, 3) := by decide +kernel
theorem dX8_stand_4 : decode cX8_stand 4 = .ok (.iload_n 1, 1) := by decide +kernel
theorem dX8_stand_5 : decode cX8_stand 5 = .ok (.aaload, 1) := by decide +kernel
theorem dX8_stand_6 : decode cX8_stand 6 = .ok (.iload_n 2, 1) := by decide +kernel
theorem dX8_stand_7 : decode cX8_stand 7 = .ok (.iconst 1, 1) := by decide +kernel
theorem dX8_stand_8 : decode cX8_stand 8 = .ok (.bastore, 1) := by decide +kernel
theorem dX8_stand_9 : decode cX8_stand 9 = .ok (.aload_n 0, 1) := by decide +kernel
theorem dX8_stand_10 : decode cX8_stand 10 = .ok (.getfield 20, 3) := by decide +kernel
theorem dX8_stand_13 : decode cX8_stand 13 = .ok (.iload_n 1, 1) := by decide +kernel
theorem dX8_stand_14 : decode cX8_stand 14 = .ok (.aaload, 1) := by decide +kernel
theorem dX8_stand_15 : decode cX8_stand 15 = .ok (.iload_n 2, 1) := by decide +kernel
theorem dX8_stand_16 : decode cX8_stand 16 = .ok (.iload_n 3, 1) := by decide +kernel
theorem dX8_stand_17 : decode cX8_stand 17 = .ok (.iastore, 1) := by decide +kernel
theorem dX8_stand_18 : decode cX8_stand 18 = .ok (.aload_n 0, 1) := by decide +kernel
theorem dX8_stand_19 : decode cX8_stand 19 = .ok (.getfield 23, 3) := by decide +kernel
theorem dX8_stand_22 : decode cX8_stand 22 = .ok (.iload_n 1, 1) := by decide +kernel
theorem dX8_stand_23 : decode cX8_stand 23 = .ok (.aaload, 1) := by decide +kernel
theorem dX8_stand_24 : decode cX8_stand 24 = .ok (.iload_n 2, 1) := by decide +kernel
theorem dX8_stand_25 : decode cX8_stand 25 = .ok (.iload 4, 2) := by decide +kernel
theorem dX8_stand_27 : decode cX8_stand 27 = .ok (.iastore, 1) := by decide +kernel
theorem dX8_stand_28 : decode cX8_stand 28 = .ok (.aload_n 0, 1) := by decide +kernel
theorem dX8_stand_29 : decode cX8_stand 29 = .ok (.getfield 26, 3) := by decide +kernel
theorem dX8_stand_32 : decode cX8_stand 32 = .ok (.iload_n 1, 1) := by decide +kernel
theorem dX8_stand_33 : decode cX8_stand 33 = .ok (.aaload, 1) := by decide +kernel
theorem dX8_stand_34 : decode cX8_stand 34 = .ok (.iload_n 2, 1) := by decide +kernel
theorem dX8_stand_35 : decode cX8_stand 35 = .ok (.iload 5, 2) := by decide +kernel
theorem dX8_stand_37 : decode cX8_stand 37 = .ok (.iastore, 1) := by decide +kernel
theorem dX8_stand_38 : decode cX8_stand 38 = .ok (.return_, 1) := by decide +kernel
theorem dX8_make_0 : decode cX8_make 0 = .ok (.iload_n 1, 1) := by decide +kernel
theorem dX8_make_1 : decode cX8_make 1 = .ok (.invokestatic 151, 3) := by decide +kernel
theorem dX8_make_4 : decode cX8_make 4 = .ok (.ifCond .eq 35, 3) := by decide +kernel
theorem dX8_make_7 : decode cX8_make 7 = .ok (.iload_n 2, 1) := by decide +kernel
theorem dX8_make_8 : decode cX8_make 8 = .ok (.iconst (-1), 1) := by decide +kernel
theorem dX8_make_9 : decode cX8_make 9 = .ok (.if_icmp .eq 11, 3) := by decide +kernel
theorem dX8_make_12 : decode cX8_make 12 = .ok (.aload_n 0, 1) := by decide +kernel
theorem dX8_make_13 : decode cX8_make 13 = .ok (.iload_n 2, 1) := by decide +kernel
theorem dX8_make_14 : decode cX8_make 14 = .ok (.invokevirtual 137, 3) := by decide +kernel
theorem dX8_make_17 : decode cX8_make 17 = .ok (.ifCond .eq 22, 3) := by decide +kernel
theorem dX8_make_20 : decode cX8_make 20 = .ok (.iload_n 3, 1) := by decide +kernel
theorem dX8_make_21 : decode cX8_make 21 = .ok (.invokestatic 154, 3) := by decide +kernel
theorem dX8_make_24 : decode cX8_make 24 = .ok (.ifCond .eq 15, 3) := by decide +kernel
theorem dX8_make_27 : decode cX8_make 27 = .ok (.iload 4, 2) := by decide +kernel
theorem dX8_make_29 : decode cX8_make 29 = .ok (.iconst (-1), 1) := by decide +kernel
theorem dX8_make_30 : decode cX8_make 30 = .ok (.sipush 999, 3) := by decide +kernel
theorem dX8_make_33 : decode cX8_make 33 = .ok (.invokestatic 133, 3) := by decide +kernel
theorem dX8_make_36 : decode cX8_make 36 = .ok (.ifCond .ne 12, 3) := by decide +kernel
theorem dX8_make_39 : decode cX8_make 39 = .ok (.aload_n 0, 1) := by decide +kernel
theorem dX8_make_40 : decode cX8_make 40 = .ok (.bipush (-2), 2) := by decide +kernel
theorem dX8_make_42 : decode cX8_make 42 = .ok (.iconst (-1), 1) := by decide +kernel
theorem dX8_make_43 : decode cX8_make 43 = .ok (.iconst 0, 1) := by decide +kernel
theorem dX8_make_44 : decode cX8_make 44 = .ok (.invokevirtual 157, 3) := by decide +kernel
theorem dX8_make_47 : decode cX8_make 47 = .ok (.ireturn, 1) := by decide +kernel
theorem dX8_make_48 : decode cX8_make 48 = .ok (.aload_n 0, 1) := by decide +kernel
theorem dX8_make_49 : decode cX8_make 49 = .ok (.iload_n 1, 1) := by decide +kernel
theorem dX8_make_50 : decode cX8_make 50 = .ok (.iload_n 2, 1) := by decide +kernel
theorem dX8_make_51 : decode cX8_make 51 = .ok (.invokevirtual 160, 3) := by decide +kernel
theorem dX8_make_54 : decode cX8_make 54 = .ok (.ifCond .ne 12, 3) := by decide +kernel
theorem dX8_make_57 : decode cX8_make 57 = .ok (.aload_n 0, 1) := by decide +kernel
theorem dX8_make_58 : decode cX8_make 58 = .ok (.bipush (-3), 2) := by decide +kernel
theorem dX8_make_60 : decode cX8_make 60 = .ok (.iload_n 2, 1) := by decide +kernel
theorem dX8_make_61 : decode cX8_make 61 = .ok (.iconst 0, 1) := by decide +kernel
theorem dX8_make_62 : decode cX8_make 62 = .ok (.invokevirtual 157, 3) := by decide +kernel
theorem dX8_make_65 : decode cX8_make 65 = .ok (.ireturn, 1) := by decide +kernel
theorem dX8_make_66 : decode cX8_make 66 = .ok (.aload_n 0, 1) := by decide +kernel
theorem dX8_make_67 : decode cX8_make 67 = .ok (.getfield 130, 3) := by decide +kernel
theorem dX8_make_70 : decode cX8_make 70 = .ok (.bipush 30, 2) := by decide +kernel
theorem dX8_make_72 : decode cX8_make 72 = .ok (.if_icmp .ne 12, 3) := by decide +kernel
theorem dX8_make_75 : decode cX8_make 75 = .ok (.aload_n 0, 1) := by decide +kernel
theorem dX8_make_76 : decode cX8_make 76 = .ok (.bipush (-4), 2) := by decide +kernel
theorem dX8_make_78 : decode cX8_make 78 = .ok (.iconst (-1), 1) := by decide +kernel
theorem dX8_make_79 : decode cX8_make 79 = .ok (.iconst 0, 1) := by decide +kernel
theorem dX8_make_80 : decode cX8_make 80 = .ok (.invokevirtual 157, 3) := by decide +kernel
theorem dX8_make_83 : decode cX8_make 83 = .ok (.ireturn, 1) := by decide +kernel
theorem dX8_make_84 : decode cX8_make 84 = .ok (.aload_n 0, 1) := by decide +kernel
theorem dX8_make_85 : decode cX8_make 85 = .ok (.iload_n 1, 1) := by decide +kernel
theorem dX8_make_86 : decode cX8_make 86 = .ok (.iload_n 2, 1) := by decide +kernel
theorem dX8_make_87 : decode cX8_make 87 = .ok (.iload_n 3, 1) := by decide +kernel
theorem dX8_make_88 : decode cX8_make 88 = .ok (.invokevirtual 164, 3) := by decide +kernel
theorem dX8_make_91 : decode cX8_make 91 = .ok (.istore 5, 2) := by decide +kernel
theorem dX8_make_93 : decode cX8_make 93 = .ok (.iload 5, 2) := by decide +kernel
theorem dX8_make_95 : decode cX8_make 95 = .ok (.iconst (-1), 1) := by decide +kernel
theorem dX8_make_96 : decode cX8_make 96 = .ok (.if_icmp .eq 13, 3) := by decide +kernel
theorem dX8_make_99 : decode cX8_make 99 = .ok (.aload_n 0, 1) := by decide +kernel
theorem dX8_make_100 : decode cX8_make 100 = .ok (.bipush (-6), 2) := by decide +kernel
theorem dX8_make_102 : decode cX8_make 102 = .ok (.iload 5, 2) := by decide +kernel
theorem dX8_make_104 : decode cX8_make 104 = .ok (.iconst 0, 1) := by decide +kernel
theorem dX8_make_105 : decode cX8_make 105 = .ok (.invokevirtual 157, 3) := by decide +kernel
theorem dX8_make_108 : decode cX8_make 108 = .ok (.ireturn, 1) := by decide +kernel
theorem dX8_make_109 : decode cX8_make 109 = .ok (.aload_n 0, 1) := by decide +kernel
theorem dX8_make_110 : decode cX8_make 110 = .ok (.getfield 9, 3) := by decide +kernel
theorem dX8_make_113 : decode cX8_make 113 = .ok (.aload_n 0, 1) := by decide +kernel
theorem dX8_make_114 : decode cX8_make 114 = .ok (.getfield 130, 3) := by decide +kernel
theorem dX8_make_117 : decode cX8_make 117 = .ok (.iload 4, 2) := by decide +kernel
theorem dX8_make_119 : decode cX8_make 119 = .ok (.iconst (-1), 1) := by decide +kernel
theorem dX8_make_120 : decode cX8_make 120 = .ok (.if_icmp .ne 7, 3) := by decide +kernel
theorem dX8_make_123 : decode cX8_make 123 = .ok (.iconst 1, 1) := by decide +kernel
theorem dX8_make_124 : decode cX8_make 124 = .ok (.goto 4, 3) := by decide +kernel
theorem dX8_make_127 : decode cX8_make 127 = .ok (.iconst 0, 1) := by decide +kernel
theorem dX8_make_128 : decode cX8_make 128 = .ok (.bastore, 1) := by decide +kernel
theorem dX8_make_129 : decode cX8_make 129 = .ok (.iconst 0, 1) := by decide +kernel
theorem dX8_make_130 : decode cX8_make 130 = .ok (.istore 6, 2) := by decide +kernel
theorem dX8_make_132 : decode cX8_make 132 = .ok (.iload 6, 2) := by decide +kernel
theorem dX8_make_134 : decode cX8_make 134 = .ok (.iconst 3, 1) := by decide +kernel
theorem dX8_make_135 : decode cX8_make 135 = .ok (.if_icmp .ge 22, 3) := by decide +kernel
theorem dX8_make_138 : decode cX8_make 138 = .ok (.aload_n 0, 1) := by decide +kernel
theorem dX8_make_139 : decode cX8_make 139 = .ok (.getfield 15, 3) := by decide +kernel
theorem dX8_make_142 : decode cX8_make 142 = .ok (.iload 6, 2) := by decide +kernel
theorem dX8_make_144 : decode cX8_make 144 = .ok (.aaload, 1) := by decide +kernel
theorem dX8_make_145 : decode cX8_make 145 = .ok (.aload_n 0, 1) := by decide +kernel
theorem dX8_make_146 : decode cX8_make 146 = .ok (.getfield 130, 3) := by decide +kernel
theorem dX8_make_149 : decode cX8_make 149 = .ok (.iconst 0, 1) := by decide +kernel
theorem dX8_make_150 : decode cX8_make 150 = .ok (.bastore, 1) := by decide +kernel
theorem dX8_make_151 : decode cX8_make 151 = .ok (.iinc 6 1, 3) := by decide +kernel
theorem dX8_make_154 : decode cX8_make 154 = .ok (.goto (-22), 3) := by decide +kernel
theorem dX8_make_157 : decode cX8_make 157 = .ok (.aload_n 0, 1) := by decide +kernel
theorem dX8_make_158 : decode cX8_make 158 = .ok (.iload_n 1, 1) := by decide +kernel
theorem dX8_make_159 : decode cX8_make 159 = .ok (.aload_n 0, 1) := by decide +kernel
theorem dX8_make_160 : decode cX8_make 160 = .ok (.getfield 130, 3) := by decide +kernel
theorem dX8_make_163 : decode cX8_make 163 = .ok (.iload_n 2, 1) := by decide +kernel
theorem dX8_make_164 : decode cX8_make 164 = .ok (.iload_n 3, 1) := by decide +kernel
theorem dX8_make_165 : decode cX8_make 165 = .ok (.iconst 0, 1) := by decide +kernel
theorem dX8_make_166 : decode cX8_make 166 = .ok (.iload 4, 2) := by decide +kernel
theorem dX8_make_168 : decode cX8_make 168 = .ok (.invokestatic 167, 3) := by decide +kernel
theorem dX8_make_171 : decode cX8_make 171 = .ok (.invokevirtual 173, 3) := by decide +kernel
theorem dX8_make_174 : decode cX8_make 174 = .ok (.aload_n 0, 1) := by decide +kernel
theorem dX8_make_175 : decode cX8_make 175 = .ok (.dup, 1) := by decide +kernel
theorem dX8_make_176 : decode cX8_make 176 = .ok (.getfield 130, 3) := by decide +kernel
theorem dX8_make_179 : decode cX8_make 179 = .ok (.iconst 1, 1) := by decide +kernel
theorem dX8_make_180 : decode cX8_make 180 = .ok (.iadd, 1) := by decide +kernel
theorem dX8_make_181 : decode cX8_make 181 = .ok (.putfield 130, 3) := by decide +kernel
theorem dX8_make_184 : decode cX8_make 184 = .ok (.aload_n 0, 1) := by decide +kernel
theorem dX8_make_185 : decode cX8_make 185 = .ok (.aload_n 0, 1) := by decide +kernel
theorem dX8_make_186 : decode cX8_make 186 = .ok (.getfield 130, 3) := by decide +kernel
theorem dX8_make_189 : decode cX8_make 189 = .ok (.iconst 1, 1) := by decide +kernel
theorem dX8_make_190 : decode cX8_make 190 = .ok (.isub, 1) := by decide +kernel
theorem dX8_make_191 : decode cX8_make 191 = .ok (.invokevirtual 177, 3) := by decide +kernel
theorem dX8_make_194 : decode cX8_make 194 = .ok (.ireturn, 1) := by decide +kernel
theorem dX8_write_0 : decode cX8_write 0 = .ok (.iload_n 1, 1) := by decide +kernel
theorem dX8_write_1 : decode cX8_write 1 = .ok (.invokestatic 151, 3) := by decide +kernel
theorem dX8_write_4 : decode cX8_write 4 = .ok (.ifCond .eq 22, 3) := by decide +kernel
theorem dX8_write_7 : decode cX8_write 7 = .ok (.aload_n 0, 1) := by decide +kernel
theorem dX8_write_8 : decode cX8_write 8 = .ok (.iload_n 2, 1) := by decide +kernel
theorem dX8_write_9 : decode cX8_write 9 = .ok (.invokevirtual 137, 3) := by decide +kernel
theorem dX8_write_12 : decode cX8_write 12 = .ok (.ifCond .eq 14, 3) := by decide +kernel
theorem dX8_write_15 : decode cX8_write 15 = .ok (.iload_n 3, 1) := by decide +kernel
theorem dX8_write_16 : decode cX8_write 16 = .ok (.iconst 0, 1) := by decide +kernel
theorem dX8_write_17 : decode cX8_write 17 = .ok (.sipush 999, 3) := by decide +kernel
theorem dX8_write_20 : decode cX8_write 20 = .ok (.invokestatic 133, 3) := by decide +kernel
theorem dX8_write_23 : decode cX8_write 23 = .ok (.ifCond .ne 12, 3) := by decide +kernel
theorem dX8_write_26 : decode cX8_write 26 = .ok (.aload_n 0, 1) := by decide +kernel
theorem dX8_write_27 : decode cX8_write 27 = .ok (.bipush (-2), 2) := by decide +kernel
theorem dX8_write_29 : decode cX8_write 29 = .ok (.iconst (-1), 1) := by decide +kernel
theorem dX8_write_30 : decode cX8_write 30 = .ok (.iconst 0, 1) := by decide +kernel
theorem dX8_write_31 : decode cX8_write 31 = .ok (.invokevirtual 157, 3) := by decide +kernel
theorem dX8_write_34 : decode cX8_write 34 = .ok (.ireturn, 1) := by decide +kernel
theorem dX8_write_35 : decode cX8_write 35 = .ok (.aload_n 0, 1) := by decide +kernel
theorem dX8_write_36 : decode cX8_write 36 = .ok (.getfield 15, 3) := by decide +kernel
theorem dX8_write_39 : decode cX8_write 39 = .ok (.iload_n 1, 1) := by decide +kernel
theorem dX8_write_40 : decode cX8_write 40 = .ok (.aaload, 1) := by decide +kernel
theorem dX8_write_41 : decode cX8_write 41 = .ok (.iload_n 2, 1) := by decide +kernel
theorem dX8_write_42 : decode cX8_write 42 = .ok (.baload, 1) := by decide +kernel
theorem dX8_write_43 : decode cX8_write 43 = .ok (.ifCond .ne 12, 3) := by decide +kernel
theorem dX8_write_46 : decode cX8_write 46 = .ok (.aload_n 0, 1) := by decide +kernel
theorem dX8_write_47 : decode cX8_write 47 = .ok (.bipush (-3), 2) := by decide +kernel
theorem dX8_write_49 : decode cX8_write 49 = .ok (.iload_n 2, 1) := by decide +kernel
theorem dX8_write_50 : decode cX8_write 50 = .ok (.iconst 0, 1) := by decide +kernel
theorem dX8_write_51 : decode cX8_write 51 = .ok (.invokevirtual 157, 3) := by decide +kernel
theorem dX8_write_54 : decode cX8_write 54 = .ok (.ireturn, 1) := by decide +kernel
theorem dX8_write_55 : decode cX8_write 55 = .ok (.aload_n 0, 1) := by decide +kernel
theorem dX8_write_56 : decode cX8_write 56 = .ok (.getfield 9, 3) := by decide +kernel
theorem dX8_write_59 : decode cX8_write 59 = .ok (.iload_n 2, 1) := by decide +kernel
theorem dX8_write_60 : decode cX8_write 60 = .ok (.baload, 1) := by decide +kernel
theorem dX8_write_61 : decode cX8_write 61 = .ok (.ifCond .eq 12, 3) := by decide +kernel
theorem dX8_write_64 : decode cX8_write 64 = .ok (.aload_n 0, 1) := by decide +kernel
theorem dX8_write_65 : decode cX8_write 65 = .ok (.bipush (-13), 2) := by decide +kernel
theorem dX8_write_67 : decode cX8_write 67 = .ok (.iconst (-1), 1) := by decide +kernel
theorem dX8_write_68 : decode cX8_write 68 = .ok (.iconst 0, 1) := by decide +kernel
theorem dX8_write_69 : decode cX8_write 69 = .ok (.invokevirtual 157, 3) := by decide +kernel
theorem dX8_write_72 : decode cX8_write 72 = .ok (.ireturn, 1) := by decide +kernel
theorem dX8_write_73 : decode cX8_write 73 = .ok (.aload_n 0, 1) := by decide +kernel
theorem dX8_write_74 : decode cX8_write 74 = .ok (.getfield 26, 3) := by decide +kernel
theorem dX8_write_77 : decode cX8_write 77 = .ok (.iload_n 1, 1) := by decide +kernel
theorem dX8_write_78 : decode cX8_write 78 = .ok (.aaload, 1) := by decide +kernel
theorem dX8_write_79 : decode cX8_write 79 = .ok (.iload_n 2, 1) := by decide +kernel
theorem dX8_write_80 : decode cX8_write 80 = .ok (.iaload, 1) := by decide +kernel
theorem dX8_write_81 : decode cX8_write 81 = .ok (.istore 4, 2) := by decide +kernel
theorem dX8_write_83 : decode cX8_write 83 = .ok (.aload_n 0, 1) := by decide +kernel
theorem dX8_write_84 : decode cX8_write 84 = .ok (.getfield 26, 3) := by decide +kernel
theorem dX8_write_87 : decode cX8_write 87 = .ok (.iload_n 1, 1) := by decide +kernel
theorem dX8_write_88 : decode cX8_write 88 = .ok (.aaload, 1) := by decide +kernel
theorem dX8_write_89 : decode cX8_write 89 = .ok (.iload_n 2, 1) := by decide +kernel
theorem dX8_write_90 : decode cX8_write 90 = .ok (.iload_n 3, 1) := by decide +kernel
theorem dX8_write_91 : decode cX8_write 91 = .ok (.iastore, 1) := by decide +kernel
theorem dX8_write_92 : decode cX8_write 92 = .ok (.aload_n 0, 1) := by decide +kernel
theorem dX8_write_93 : decode cX8_write 93 = .ok (.iload 4, 2) := by decide +kernel
theorem dX8_write_95 : decode cX8_write 95 = .ok (.invokevirtual 177, 3) := by decide +kernel
theorem dX8_write_98 : decode cX8_write 98 = .ok (.ireturn, 1) := by decide +kernel
theorem dX8_move_0 : decode cX8_move 0 = .ok (.iload_n 1, 1) := by decide +kernel
theorem dX8_move_1 : decode cX8_move 1 = .ok (.invokestatic 151, 3) := by decide +kernel
theorem dX8_move_4 : decode cX8_move 4 = .ok (.ifCond .eq 32, 3) := by decide +kernel
theorem dX8_move_7 : decode cX8_move 7 = .ok (.aload_n 0, 1) := by decide +kernel
theorem dX8_move_8 : decode cX8_move 8 = .ok (.iload_n 2, 1) := by decide +kernel
theorem dX8_move_9 : decode cX8_move 9 = .ok (.invokevirtual 137, 3) := by decide +kernel
theorem dX8_move_12 : decode cX8_move 12 = .ok (.ifCond .eq 24, 3) := by decide +kernel
theorem dX8_move_15 : decode cX8_move 15 = .ok (.iload_n 3, 1) := by decide +kernel
theorem dX8_move_16 : decode cX8_move 16 = .ok (.iconst (-1), 1) := by decide +kernel
theorem dX8_move_17 : decode cX8_move 17 = .ok (.if_icmp .eq 11, 3) := by decide +kernel
theorem dX8_move_20 : decode cX8_move 20 = .ok (.aload_n 0, 1) := by decide +kernel
theorem dX8_move_21 : decode cX8_move 21 = .ok (.iload_n 3, 1) := by decide +kernel
theorem dX8_move_22 : decode cX8_move 22 = .ok (.invokevirtual 137, 3) := by decide +kernel
theorem dX8_move_25 : decode cX8_move 25 = .ok (.ifCond .eq 11, 3) := by decide +kernel
theorem dX8_move_28 : decode cX8_move 28 = .ok (.iload 4, 2) := by decide +kernel
theorem dX8_move_30 : decode cX8_move 30 = .ok (.invokestatic 154, 3) := by decide +kernel
theorem dX8_move_33 : decode cX8_move 33 = .ok (.ifCond .ne 12, 3) := by decide +kernel
theorem dX8_move_36 : decode cX8_move 36 = .ok (.aload_n 0, 1) := by decide +kernel
theorem dX8_move_37 : decode cX8_move 37 = .ok (.bipush (-2), 2) := by decide +kernel
theorem dX8_move_39 : decode cX8_move 39 = .ok (.iconst (-1), 1) := by decide +kernel
theorem dX8_move_40 : decode cX8_move 40 = .ok (.iconst 0, 1) := by decide +kernel
theorem dX8_move_41 : decode cX8_move 41 = .ok (.invokevirtual 157, 3) := by decide +kernel
theorem dX8_move_44 : decode cX8_move 44 = .ok (.ireturn, 1) := by decide +kernel
theorem dX8_move_45 : decode cX8_move 45 = .ok (.aload_n 0, 1) := by decide +kernel
theorem dX8_move_46 : decode cX8_move 46 = .ok (.getfield 15, 3) := by decide +kernel
theorem dX8_move_49 : decode cX8_move 49 = .ok (.iload_n 1, 1) := by decide +kernel
theorem dX8_move_50 : decode cX8_move 50 = .ok (.aaload, 1) := by decide +kernel
theorem dX8_move_51 : decode cX8_move 51 = .ok (.iload_n 2, 1) := by decide +kernel
theorem dX8_move_52 : decode cX8_move 52 = .ok (.baload, 1) := by decide +kernel
theorem dX8_move_53 : decode cX8_move 53 = .ok (.ifCond .ne 12, 3) := by decide +kernel
theorem dX8_move_56 : decode cX8_move 56 = .ok (.aload_n 0, 1) := by decide +kernel
theorem dX8_move_57 : decode cX8_move 57 = .ok (.bipush (-3), 2) := by decide +kernel
theorem dX8_move_59 : decode cX8_move 59 = .ok (.iload_n 2, 1) := by decide +kernel
theorem dX8_move_60 : decode cX8_move 60 = .ok (.iconst 0, 1) := by decide +kernel
theorem dX8_move_61 : decode cX8_move 61 = .ok (.invokevirtual 157, 3) := by decide +kernel
theorem dX8_move_64 : decode cX8_move 64 = .ok (.ireturn, 1) := by decide +kernel
theorem dX8_move_65 : decode cX8_move 65 = .ok (.aload_n 0, 1) := by decide +kernel
theorem dX8_move_66 : decode cX8_move 66 = .ok (.iload_n 1, 1) := by decide +kernel
theorem dX8_move_67 : decode cX8_move 67 = .ok (.iload_n 3, 1) := by decide +kernel
theorem dX8_move_68 : decode cX8_move 68 = .ok (.invokevirtual 160, 3) := by decide +kernel
theorem dX8_move_71 : decode cX8_move 71 = .ok (.ifCond .ne 12, 3) := by decide +kernel
theorem dX8_move_74 : decode cX8_move 74 = .ok (.aload_n 0, 1) := by decide +kernel
theorem dX8_move_75 : decode cX8_move 75 = .ok (.bipush (-3), 2) := by decide +kernel
theorem dX8_move_77 : decode cX8_move 77 = .ok (.iload_n 3, 1) := by decide +kernel
theorem dX8_move_78 : decode cX8_move 78 = .ok (.iconst 0, 1) := by decide +kernel
theorem dX8_move_79 : decode cX8_move 79 = .ok (.invokevirtual 157, 3) := by decide +kernel
theorem dX8_move_82 : decode cX8_move 82 = .ok (.ireturn, 1) := by decide +kernel
theorem dX8_move_83 : decode cX8_move 83 = .ok (.iload_n 3, 1) := by decide +kernel
theorem dX8_move_84 : decode cX8_move 84 = .ok (.iconst (-1), 1) := by decide +kernel
theorem dX8_move_85 : decode cX8_move 85 = .ok (.if_icmp .ne 7, 3) := by decide +kernel
theorem dX8_move_88 : decode cX8_move 88 = .ok (.iconst (-1), 1) := by decide +kernel
theorem dX8_move_89 : decode cX8_move 89 = .ok (.goto 10, 3) := by decide +kernel
theorem dX8_move_92 : decode cX8_move 92 = .ok (.aload_n 0, 1) := by decide +kernel
theorem dX8_move_93 : decode cX8_move 93 = .ok (.iload_n 1, 1) := by decide +kernel
theorem dX8_move_94 : decode cX8_move 94 = .ok (.iload_n 3, 1) := by decide +kernel
theorem dX8_move_95 : decode cX8_move 95 = .ok (.iload_n 2, 1) := by decide +kernel
theorem dX8_move_96 : decode cX8_move 96 = .ok (.invokevirtual 141, 3) := by decide +kernel
theorem dX8_move_99 : decode cX8_move 99 = .ok (.istore 5, 2) := by decide +kernel
theorem dX8_move_101 : decode cX8_move 101 = .ok (.iload 5, 2) := by decide +kernel
theorem dX8_move_103 : decode cX8_move 103 = .ok (.iconst (-1), 1) := by decide +kernel
theorem dX8_move_104 : decode cX8_move 104 = .ok (.if_icmp .eq 13, 3) := by decide +kernel
theorem dX8_move_107 : decode cX8_move 107 = .ok (.aload_n 0, 1) := by decide +kernel
theorem dX8_move_108 : decode cX8_move 108 = .ok (.bipush (-7), 2) := by decide +kernel
theorem dX8_move_110 : decode cX8_move 110 = .ok (.iload_n 3, 1) := by decide +kernel
theorem dX8_move_111 : decode cX8_move 111 = .ok (.iload 5, 2) := by decide +kernel
theorem dX8_move_113 : decode cX8_move 113 = .ok (.invokevirtual 157, 3) := by decide +kernel
theorem dX8_move_116 : decode cX8_move 116 = .ok (.ireturn, 1) := by decide +kernel
theorem dX8_move_117 : decode cX8_move 117 = .ok (.aload_n 0, 1) := by decide +kernel
theorem dX8_move_118 : decode cX8_move 118 = .ok (.iload_n 1, 1) := by decide +kernel
theorem dX8_move_119 : decode cX8_move 119 = .ok (.iload_n 3, 1) := by decide +kernel
theorem dX8_move_120 : decode cX8_move 120 = .ok (.iload 4, 2) := by decide +kernel
theorem dX8_move_122 : decode cX8_move 122 = .ok (.invokevirtual 164, 3) := by decide +kernel
theorem dX8_move_125 : decode cX8_move 125 = .ok (.istore 6, 2) := by decide +kernel
theorem dX8_move_127 : decode cX8_move 127 = .ok (.iload 6, 2) := by decide +kernel
theorem dX8_move_129 : decode cX8_move 129 = .ok (.iconst (-1), 1) := by decide +kernel
theorem dX8_move_130 : decode cX8_move 130 = .ok (.if_icmp .eq 19, 3) := by decide +kernel
theorem dX8_move_133 : decode cX8_move 133 = .ok (.iload 6, 2) := by decide +kernel
theorem dX8_move_135 : decode cX8_move 135 = .ok (.iload_n 2, 1) := by decide +kernel
theorem dX8_move_136 : decode cX8_move 136 = .ok (.if_icmp .eq 13, 3) := by decide +kernel
theorem dX8_move_139 : decode cX8_move 139 = .ok (.aload_n 0, 1) := by decide +kernel
theorem dX8_move_140 : decode cX8_move 140 = .ok (.bipush (-6), 2) := by decide +kernel
theorem dX8_move_142 : decode cX8_move 142 = .ok (.iload 6, 2) := by decide +kernel
theorem dX8_move_144 : decode cX8_move 144 = .ok (.iconst 0, 1) := by decide +kernel
theorem dX8_move_145 : decode cX8_move 145 = .ok (.invokevirtual 157, 3) := by decide +kernel
theorem dX8_move_148 : decode cX8_move 148 = .ok (.ireturn, 1) := by decide +kernel
theorem dX8_move_149 : decode cX8_move 149 = .ok (.aload_n 0, 1) := by decide +kernel
theorem dX8_move_150 : decode cX8_move 150 = .ok (.getfield 20, 3) := by decide +kernel
theorem dX8_move_153 : decode cX8_move 153 = .ok (.iload_n 1, 1) := by decide +kernel
theorem dX8_move_154 : decode cX8_move 154 = .ok (.aaload, 1) := by decide +kernel
theorem dX8_move_155 : decode cX8_move 155 = .ok (.iload_n 2, 1) := by decide +kernel
theorem dX8_move_156 : decode cX8_move 156 = .ok (.iload_n 3, 1) := by decide +kernel
theorem dX8_move_157 : decode cX8_move 157 = .ok (.iastore, 1) := by decide +kernel
theorem dX8_move_158 : decode cX8_move 158 = .ok (.aload_n 0, 1) := by decide +kernel
theorem dX8_move_159 : decode cX8_move 159 = .ok (.getfield 23, 3) := by decide +kernel
theorem dX8_move_162 : decode cX8_move 162 = .ok (.iload_n 1, 1) := by decide +kernel
theorem dX8_move_163 : decode cX8_move 163 = .ok (.aaload, 1) := by decide +kernel
theorem dX8_move_164 : decode cX8_move 164 = .ok (.iload_n 2, 1) := by decide +kernel
theorem dX8_move_165 : decode cX8_move 165 = .ok (.iload 4, 2) := by decide +kernel
theorem dX8_move_167 : decode cX8_move 167 = .ok (.iastore, 1) := by decide +kernel
theorem dX8_move_168 : decode cX8_move 168 = .ok (.aload_n 0, 1) := by decide +kernel
theorem dX8_move_169 : decode cX8_move 169 = .ok (.iconst 1, 1) := by decide +kernel
theorem dX8_move_170 : decode cX8_move 170 = .ok (.invokevirtual 177, 3) := by decide +kernel
theorem dX8_move_173 : decode cX8_move 173 = .ok (.ireturn, 1) := by decide +kernel
theorem dX8_removes_0 : decode cX8_removes 0 = .ok (.iconst 1, 1) := by decide +kernel
theorem dX8_removes_1 : decode cX8_removes 1 = .ok (.istore_n 3, 1) := by decide +kernel
theorem dX8_removes_2 : decode cX8_removes 2 = .ok (.iconst 0, 1) := by decide +kernel
theorem dX8_removes_3 : decode cX8_removes 3 = .ok (.istore 4, 2) := by decide +kernel
theorem dX8_removes_5 : decode cX8_removes 5 = .ok (.iload 4, 2) := by decide +kernel
theorem dX8_removes_7 : decode cX8_removes 7 = .ok (.aload_n 0, 1) := by decide +kernel
theorem dX8_removes_8 : decode cX8_removes 8 = .ok (.getfield 130, 3) := by decide +kernel
theorem dX8_removes_11 : decode cX8_removes 11 = .ok (.if_icmp .ge 37, 3) := by decide +kernel
theorem dX8_removes_14 : decode cX8_removes 14 = .ok (.aload_n 0, 1) := by decide +kernel
theorem dX8_removes_15 : decode cX8_removes 15 = .ok (.getfield 33, 3) := by decide +kernel
theorem dX8_removes_18 : decode cX8_removes 18 = .ok (.iload 4, 2) := by decide +kernel
theorem dX8_removes_20 : decode cX8_removes 20 = .ok (.aload_n 0, 1) := by decide +kernel
theorem dX8_removes_21 : decode cX8_removes 21 = .ok (.iload_n 1, 1) := by decide +kernel
theorem dX8_removes_22 : decode cX8_removes 22 = .ok (.iload 4, 2) := by decide +kernel
theorem dX8_removes_24 : decode cX8_removes 24 = .ok (.iload_n 2, 1) := by decide +kernel
theorem dX8_removes_25 : decode cX8_removes 25 = .ok (.invokevirtual 181, 3) := by decide +kernel
theorem dX8_removes_28 : decode cX8_removes 28 = .ok (.bastore, 1) := by decide +kernel
theorem dX8_removes_29 : decode cX8_removes 29 = .ok (.aload_n 0, 1) := by decide +kernel
theorem dX8_removes_30 : decode cX8_removes 30 = .ok (.getfield 33, 3) := by decide +kernel
theorem dX8_removes_33 : decode cX8_removes 33 = .ok (.iload 4, 2) := by decide +kernel
theorem dX8_removes_35 : decode cX8_removes 35 = .ok (.baload, 1) := by decide +kernel
theorem dX8_removes_36 : decode cX8_removes 36 = .ok (.ifCond .eq 6, 3) := by decide +kernel
theorem dX8_removes_39 : decode cX8_removes 39 = .ok (.iinc 3 1, 3) := by decide +kernel
theorem dX8_removes_42 : decode cX8_removes 42 = .ok (.iinc 4 1, 3) := by decide +kernel
theorem dX8_removes_45 : decode cX8_removes 45 = .ok (.goto (-40), 3) := by decide +kernel
theorem dX8_removes_48 : decode cX8_removes 48 = .ok (.iconst 0, 1) := by decide +kernel
theorem dX8_removes_49 : decode cX8_removes 49 = .ok (.istore 4, 2) := by decide +kernel
theorem dX8_removes_51 : decode cX8_removes 51 = .ok (.iload 4, 2) := by decide +kernel
theorem dX8_removes_53 : decode cX8_removes 53 = .ok (.aload_n 0, 1) := by decide +kernel
theorem dX8_removes_54 : decode cX8_removes 54 = .ok (.getfield 130, 3) := by decide +kernel
theorem dX8_removes_57 : decode cX8_removes 57 = .ok (.if_icmp .ge 35, 3) := by decide +kernel
theorem dX8_removes_60 : decode cX8_removes 60 = .ok (.aload_n 0, 1) := by decide +kernel
theorem dX8_removes_61 : decode cX8_removes 61 = .ok (.getfield 33, 3) := by decide +kernel
theorem dX8_removes_64 : decode cX8_removes 64 = .ok (.iload 4, 2) := by decide +kernel
theorem dX8_removes_66 : decode cX8_removes 66 = .ok (.baload, 1) := by decide +kernel
theorem dX8_removes_67 : decode cX8_removes 67 = .ok (.ifCond .ne 9, 3) := by decide +kernel
theorem dX8_removes_70 : decode cX8_removes 70 = .ok (.iload 4, 2) := by decide +kernel
theorem dX8_removes_72 : decode cX8_removes 72 = .ok (.iload_n 2, 1) := by decide +kernel
theorem dX8_removes_73 : decode cX8_removes 73 = .ok (.if_icmp .ne 13, 3) := by decide +kernel
theorem dX8_removes_76 : decode cX8_removes 76 = .ok (.aload_n 0, 1) := by decide +kernel
theorem dX8_removes_77 : decode cX8_removes 77 = .ok (.getfield 15, 3) := by decide +kernel
theorem dX8_removes_80 : decode cX8_removes 80 = .ok (.iload_n 1, 1) := by decide +kernel
theorem dX8_removes_81 : decode cX8_removes 81 = .ok (.aaload, 1) := by decide +kernel
theorem dX8_removes_82 : decode cX8_removes 82 = .ok (.iload 4, 2) := by decide +kernel
theorem dX8_removes_84 : decode cX8_removes 84 = .ok (.iconst 0, 1) := by decide +kernel
theorem dX8_removes_85 : decode cX8_removes 85 = .ok (.bastore, 1) := by decide +kernel
theorem dX8_removes_86 : decode cX8_removes 86 = .ok (.iinc 4 1, 3) := by decide +kernel
theorem dX8_removes_89 : decode cX8_removes 89 = .ok (.goto (-38), 3) := by decide +kernel
theorem dX8_removes_92 : decode cX8_removes 92 = .ok (.iload_n 3, 1) := by decide +kernel
theorem dX8_removes_93 : decode cX8_removes 93 = .ok (.ireturn, 1) := by decide +kernel
theorem dX8_remove_0 : decode cX8_remove 0 = .ok (.iload_n 1, 1) := by decide +kernel
theorem dX8_remove_1 : decode cX8_remove 1 = .ok (.invokestatic 151, 3) := by decide +kernel
theorem dX8_remove_4 : decode cX8_remove 4 = .ok (.ifCond .eq 11, 3) := by decide +kernel
theorem dX8_remove_7 : decode cX8_remove 7 = .ok (.aload_n 0, 1) := by decide +kernel
theorem dX8_remove_8 : decode cX8_remove 8 = .ok (.iload_n 2, 1) := by decide +kernel
theorem dX8_remove_9 : decode cX8_remove 9 = .ok (.invokevirtual 137, 3) := by decide +kernel
theorem dX8_remove_12 : decode cX8_remove 12 = .ok (.ifCond .ne 12, 3) := by decide +kernel
theorem dX8_remove_15 : decode cX8_remove 15 = .ok (.aload_n 0, 1) := by decide +kernel
theorem dX8_remove_16 : decode cX8_remove 16 = .ok (.bipush (-2), 2) := by decide +kernel
theorem dX8_remove_18 : decode cX8_remove 18 = .ok (.iconst (-1), 1) := by decide +kernel
theorem dX8_remove_19 : decode cX8_remove 19 = .ok (.iconst 0, 1) := by decide +kernel
theorem dX8_remove_20 : decode cX8_remove 20 = .ok (.invokevirtual 157, 3) := by decide +kernel
theorem dX8_remove_23 : decode cX8_remove 23 = .ok (.ireturn, 1) := by decide +kernel
theorem dX8_remove_24 : decode cX8_remove 24 = .ok (.aload_n 0, 1) := by decide +kernel
theorem dX8_remove_25 : decode cX8_remove 25 = .ok (.getfield 15, 3) := by decide +kernel
theorem dX8_remove_28 : decode cX8_remove 28 = .ok (.iload_n 1, 1) := by decide +kernel
theorem dX8_remove_29 : decode cX8_remove 29 = .ok (.aaload, 1) := by decide +kernel
theorem dX8_remove_30 : decode cX8_remove 30 = .ok (.iload_n 2, 1) := by decide +kernel
theorem dX8_remove_31 : decode cX8_remove 31 = .ok (.baload, 1) := by decide +kernel
theorem dX8_remove_32 : decode cX8_remove 32 = .ok (.ifCond .ne 12, 3) := by decide +kernel
theorem dX8_remove_35 : decode cX8_remove 35 = .ok (.aload_n 0, 1) := by decide +kernel
theorem dX8_remove_36 : decode cX8_remove 36 = .ok (.bipush (-3), 2) := by decide +kernel
theorem dX8_remove_38 : decode cX8_remove 38 = .ok (.iload_n 2, 1) := by decide +kernel
theorem dX8_remove_39 : decode cX8_remove 39 = .ok (.iconst 0, 1) := by decide +kernel
theorem dX8_remove_40 : decode cX8_remove 40 = .ok (.invokevirtual 157, 3) := by decide +kernel
theorem dX8_remove_43 : decode cX8_remove 43 = .ok (.ireturn, 1) := by decide +kernel
theorem dX8_remove_44 : decode cX8_remove 44 = .ok (.aload_n 0, 1) := by decide +kernel
theorem dX8_remove_45 : decode cX8_remove 45 = .ok (.aload_n 0, 1) := by decide +kernel
theorem dX8_remove_46 : decode cX8_remove 46 = .ok (.iload_n 1, 1) := by decide +kernel
theorem dX8_remove_47 : decode cX8_remove 47 = .ok (.iload_n 2, 1) := by decide +kernel
theorem dX8_remove_48 : decode cX8_remove 48 = .ok (.invokevirtual 184, 3) := by decide +kernel
theorem dX8_remove_51 : decode cX8_remove 51 = .ok (.invokevirtual 177, 3) := by decide +kernel
theorem dX8_remove_54 : decode cX8_remove 54 = .ok (.ireturn, 1) := by decide +kernel
theorem dX8_latest_0 : decode cX8_latest 0 = .ok (.iload_n 1, 1) := by decide +kernel
theorem dX8_latest_1 : decode cX8_latest 1 = .ok (.iconst 0, 1) := by decide +kernel
theorem dX8_latest_2 : decode cX8_latest 2 = .ok (.iconst 2, 1) := by decide +kernel
theorem dX8_latest_3 : decode cX8_latest 3 = .ok (.invokestatic 133, 3) := by decide +kernel
theorem dX8_latest_6 : decode cX8_latest 6 = .ok (.ifCond .ne 6, 3) := by decide +kernel
theorem dX8_latest_9 : decode cX8_latest 9 = .ok (.bipush (-2), 2) := by decide +kernel
theorem dX8_latest_11 : decode cX8_latest 11 = .ok (.ireturn, 1) := by decide +kernel
theorem dX8_latest_12 : decode cX8_latest 12 = .ok (.iload_n 1, 1) := by decide +kernel
theorem dX8_latest_13 : decode cX8_latest 13 = .ok (.ifCond .ne 10, 3) := by decide +kernel
theorem dX8_latest_16 : decode cX8_latest 16 = .ok (.aload_n 0, 1) := by decide +kernel
theorem dX8_latest_17 : decode cX8_latest 17 = .ok (.getfield 145, 3) := by decide +kernel
theorem dX8_latest_20 : decode cX8_latest 20 = .ok (.goto 19, 3) := by decide +kernel
theorem dX8_latest_23 : decode cX8_latest 23 = .ok (.iload_n 1, 1) := by decide +kernel
theorem dX8_latest_24 : decode cX8_latest 24 = .ok (.iconst 1, 1) := by decide +kernel
theorem dX8_latest_25 : decode cX8_latest 25 = .ok (.if_icmp .ne 10, 3) := by decide +kernel
theorem dX8_latest_28 : decode cX8_latest 28 = .ok (.aload_n 0, 1) := by decide +kernel
theorem dX8_latest_29 : decode cX8_latest 29 = .ok (.getfield 29, 3) := by decide +kernel
theorem dX8_latest_32 : decode cX8_latest 32 = .ok (.goto 7, 3) := by decide +kernel
theorem dX8_latest_35 : decode cX8_latest 35 = .ok (.aload_n 0, 1) := by decide +kernel
theorem dX8_latest_36 : decode cX8_latest 36 = .ok (.getfield 148, 3) := by decide +kernel
theorem dX8_latest_39 : decode cX8_latest 39 = .ok (.ireturn, 1) := by decide +kernel
theorem dX8_deep_0 : decode cX8_deep 0 = .ok (.iconst 0, 1) := by decide +kernel
theorem dX8_deep_1 : decode cX8_deep 1 = .ok (.istore_n 3, 1) := by decide +kernel
theorem dX8_deep_2 : decode cX8_deep 2 = .ok (.aload_n 0, 1) := by decide +kernel
theorem dX8_deep_3 : decode cX8_deep 3 = .ok (.getfield 20, 3) := by decide +kernel
theorem dX8_deep_6 : decode cX8_deep 6 = .ok (.iload_n 1, 1) := by decide +kernel
theorem dX8_deep_7 : decode cX8_deep 7 = .ok (.aaload, 1) := by decide +kernel
theorem dX8_deep_8 : decode cX8_deep 8 = .ok (.iload_n 2, 1) := by decide +kernel
theorem dX8_deep_9 : decode cX8_deep 9 = .ok (.iaload, 1) := by decide +kernel
theorem dX8_deep_10 : decode cX8_deep 10 = .ok (.istore 4, 2) := by decide +kernel
theorem dX8_deep_12 : decode cX8_deep 12 = .ok (.iload 4, 2) := by decide +kernel
theorem dX8_deep_14 : decode cX8_deep 14 = .ok (.iconst (-1), 1) := by decide +kernel
theorem dX8_deep_15 : decode cX8_deep 15 = .ok (.if_icmp .eq 20, 3) := by decide +kernel
theorem dX8_deep_18 : decode cX8_deep 18 = .ok (.iinc 3 1, 3) := by decide +kernel
theorem dX8_deep_21 : decode cX8_deep 21 = .ok (.aload_n 0, 1) := by decide +kernel
theorem dX8_deep_22 : decode cX8_deep 22 = .ok (.getfield 20, 3) := by decide +kernel
theorem dX8_deep_25 : decode cX8_deep 25 = .ok (.iload_n 1, 1) := by decide +kernel
theorem dX8_deep_26 : decode cX8_deep 26 = .ok (.aaload, 1) := by decide +kernel
theorem dX8_deep_27 : decode cX8_deep 27 = .ok (.iload 4, 2) := by decide +kernel
theorem dX8_deep_29 : decode cX8_deep 29 = .ok (.iaload, 1) := by decide +kernel
theorem dX8_deep_30 : decode cX8_deep 30 = .ok (.istore 4, 2) := by decide +kernel
theorem dX8_deep_32 : decode cX8_deep 32 = .ok (.goto (-20), 3) := by decide +kernel
theorem dX8_deep_35 : decode cX8_deep 35 = .ok (.iload_n 3, 1) := by decide +kernel
theorem dX8_deep_36 : decode cX8_deep 36 = .ok (.ireturn, 1) := by decide +kernel
theorem dX8_inners_0 : decode cX8_inners 0 = .ok (.iconst 0, 1) := by decide +kernel
theorem dX8_inners_1 : decode cX8_inners 1 = .ok (.istore_n 3, 1) := by decide +kernel
theorem dX8_inners_2 : decode cX8_inners 2 = .ok (.iconst 0, 1) := by decide +kernel
theorem dX8_inners_3 : decode cX8_inners 3 = .ok (.istore 4, 2) := by decide +kernel
theorem dX8_inners_5 : decode cX8_inners 5 = .ok (.iload 4, 2) := by decide +kernel
theorem dX8_inners_7 : decode cX8_inners 7 = .ok (.aload_n 0, 1) := by decide +kernel
theorem dX8_inners_8 : decode cX8_inners 8 = .ok (.getfield 130, 3) := by decide +kernel
theorem dX8_inners_11 : decode cX8_inners 11 = .ok (.if_icmp .ge 23, 3) := by decide +kernel
theorem dX8_inners_14 : decode cX8_inners 14 = .ok (.aload_n 0, 1) := by decide +kernel
theorem dX8_inners_15 : decode cX8_inners 15 = .ok (.iload_n 1, 1) := by decide +kernel
theorem dX8_inners_16 : decode cX8_inners 16 = .ok (.iload 4, 2) := by decide +kernel
theorem dX8_inners_18 : decode cX8_inners 18 = .ok (.iload_n 2, 1) := by decide +kernel
theorem dX8_inners_19 : decode cX8_inners 19 = .ok (.invokevirtual 181, 3) := by decide +kernel
theorem dX8_inners_22 : decode cX8_inners 22 = .ok (.ifCond .eq 6, 3) := by decide +kernel
theorem dX8_inners_25 : decode cX8_inners 25 = .ok (.iinc 3 1, 3) := by decide +kernel
theorem dX8_inners_28 : decode cX8_inners 28 = .ok (.iinc 4 1, 3) := by decide +kernel
theorem dX8_inners_31 : decode cX8_inners 31 = .ok (.goto (-26), 3) := by decide +kernel
theorem dX8_inners_34 : decode cX8_inners 34 = .ok (.iload_n 3, 1) := by decide +kernel
theorem dX8_inners_35 : decode cX8_inners 35 = .ok (.ireturn, 1) := by decide +kernel
theorem dX8_told_0 : decode cX8_told 0 = .ok (.iload_n 1, 1) := by decide +kernel
theorem dX8_told_1 : decode cX8_told 1 = .ok (.invokestatic 187, 3) := by decide +kernel
theorem dX8_told_4 : decode cX8_told 4 = .ok (.ifCond .eq 21, 3) := by decide +kernel
theorem dX8_told_7 : decode cX8_told 7 = .ok (.aload_n 0, 1) := by decide +kernel
theorem dX8_told_8 : decode cX8_told 8 = .ok (.iload_n 2, 1) := by decide +kernel
theorem dX8_told_9 : decode cX8_told 9 = .ok (.invokevirtual 137, 3) := by decide +kernel
theorem dX8_told_12 : decode cX8_told 12 = .ok (.ifCond .eq 13, 3) := by decide +kernel
theorem dX8_told_15 : decode cX8_told 15 = .ok (.iload_n 3, 1) := by decide +kernel
theorem dX8_told_16 : decode cX8_told 16 = .ok (.iconst 0, 1) := by decide +kernel
theorem dX8_told_17 : decode cX8_told 17 = .ok (.bipush 9, 2) := by decide +kernel
theorem dX8_told_19 : decode cX8_told 19 = .ok (.invokestatic 133, 3) := by decide +kernel
theorem dX8_told_22 : decode cX8_told 22 = .ok (.ifCond .ne 6, 3) := by decide +kernel
theorem dX8_told_25 : decode cX8_told 25 = .ok (.bipush (-2), 2) := by decide +kernel
theorem dX8_told_27 : decode cX8_told 27 = .ok (.ireturn, 1) := by decide +kernel
theorem dX8_told_28 : decode cX8_told 28 = .ok (.aload_n 0, 1) := by decide +kernel
theorem dX8_told_29 : decode cX8_told 29 = .ok (.getfield 15, 3) := by decide +kernel
theorem dX8_told_32 : decode cX8_told 32 = .ok (.iload_n 1, 1) := by decide +kernel
theorem dX8_told_33 : decode cX8_told 33 = .ok (.aaload, 1) := by decide +kernel
theorem dX8_told_34 : decode cX8_told 34 = .ok (.iload_n 2, 1) := by decide +kernel
theorem dX8_told_35 : decode cX8_told 35 = .ok (.baload, 1) := by decide +kernel
theorem dX8_told_36 : decode cX8_told 36 = .ok (.istore 4, 2) := by decide +kernel
theorem dX8_told_38 : decode cX8_told 38 = .ok (.iload_n 3, 1) := by decide +kernel
theorem dX8_told_39 : decode cX8_told 39 = .ok (.tableswitch 205 0 8 #[49, 60, 78, 96, 114, 130, 146, 166, 186], 49) := by decide +kernel
theorem dX8_told_88 : decode cX8_told 88 = .ok (.iload 4, 2) := by decide +kernel
theorem dX8_told_90 : decode cX8_told 90 = .ok (.ifCond .eq 7, 3) := by decide +kernel
theorem dX8_told_93 : decode cX8_told 93 = .ok (.iconst 1, 1) := by decide +kernel
theorem dX8_told_94 : decode cX8_told 94 = .ok (.goto 4, 3) := by decide +kernel
theorem dX8_told_97 : decode cX8_told 97 = .ok (.iconst 0, 1) := by decide +kernel
theorem dX8_told_98 : decode cX8_told 98 = .ok (.ireturn, 1) := by decide +kernel
theorem dX8_told_99 : decode cX8_told 99 = .ok (.iload 4, 2) := by decide +kernel
theorem dX8_told_101 : decode cX8_told 101 = .ok (.ifCond .eq 14, 3) := by decide +kernel
theorem dX8_told_104 : decode cX8_told 104 = .ok (.aload_n 0, 1) := by decide +kernel
theorem dX8_told_105 : decode cX8_told 105 = .ok (.getfield 20, 3) := by decide +kernel
theorem dX8_told_108 : decode cX8_told 108 = .ok (.iload_n 1, 1) := by decide +kernel
theorem dX8_told_109 : decode cX8_told 109 = .ok (.aaload, 1) := by decide +kernel
theorem dX8_told_110 : decode cX8_told 110 = .ok (.iload_n 2, 1) := by decide +kernel
theorem dX8_told_111 : decode cX8_told 111 = .ok (.iaload, 1) := by decide +kernel
theorem dX8_told_112 : decode cX8_told 112 = .ok (.goto 4, 3) := by decide +kernel
theorem dX8_told_115 : decode cX8_told 115 = .ok (.iconst (-1), 1) := by decide +kernel
theorem dX8_told_116 : decode cX8_told 116 = .ok (.ireturn, 1) := by decide +kernel
theorem dX8_told_117 : decode cX8_told 117 = .ok (.iload 4, 2) := by decide +kernel
theorem dX8_told_119 : decode cX8_told 119 = .ok (.ifCond .eq 14, 3) := by decide +kernel
theorem dX8_told_122 : decode cX8_told 122 = .ok (.aload_n 0, 1) := by decide +kernel
theorem dX8_told_123 : decode cX8_told 123 = .ok (.getfield 23, 3) := by decide +kernel
theorem dX8_told_126 : decode cX8_told 126 = .ok (.iload_n 1, 1) := by decide +kernel
theorem dX8_told_127 : decode cX8_told 127 = .ok (.aaload, 1) := by decide +kernel
theorem dX8_told_128 : decode cX8_told 128 = .ok (.iload_n 2, 1) := by decide +kernel
theorem dX8_told_129 : decode cX8_told 129 = .ok (.iaload, 1) := by decide +kernel
theorem dX8_told_130 : decode cX8_told 130 = .ok (.goto 4, 3) := by decide +kernel
theorem dX8_told_133 : decode cX8_told 133 = .ok (.iconst (-1), 1) := by decide +kernel
theorem dX8_told_134 : decode cX8_told 134 = .ok (.ireturn, 1) := by decide +kernel
theorem dX8_told_135 : decode cX8_told 135 = .ok (.iload 4, 2) := by decide +kernel
theorem dX8_told_137 : decode cX8_told 137 = .ok (.ifCond .eq 14, 3) := by decide +kernel
theorem dX8_told_140 : decode cX8_told 140 = .ok (.aload_n 0, 1) := by decide +kernel
theorem dX8_told_141 : decode cX8_told 141 = .ok (.getfield 26, 3) := by decide +kernel
theorem dX8_told_144 : decode cX8_told 144 = .ok (.iload_n 1, 1) := by decide +kernel
theorem dX8_told_145 : decode cX8_told 145 = .ok (.aaload, 1) := by decide +kernel
theorem dX8_told_146 : decode cX8_told 146 = .ok (.iload_n 2, 1) := by decide +kernel
theorem dX8_told_147 : decode cX8_told 147 = .ok (.iaload, 1) := by decide +kernel
theorem dX8_told_148 : decode cX8_told 148 = .ok (.goto 4, 3) := by decide +kernel
theorem dX8_told_151 : decode cX8_told 151 = .ok (.iconst (-1), 1) := by decide +kernel
theorem dX8_told_152 : decode cX8_told 152 = .ok (.ireturn, 1) := by decide +kernel
theorem dX8_told_153 : decode cX8_told 153 = .ok (.iload 4, 2) := by decide +kernel
theorem dX8_told_155 : decode cX8_told 155 = .ok (.ifCond .eq 12, 3) := by decide +kernel
theorem dX8_told_158 : decode cX8_told 158 = .ok (.aload_n 0, 1) := by decide +kernel
theorem dX8_told_159 : decode cX8_told 159 = .ok (.iload_n 1, 1) := by decide +kernel
theorem dX8_told_160 : decode cX8_told 160 = .ok (.iload_n 2, 1) := by decide +kernel
theorem dX8_told_161 : decode cX8_told 161 = .ok (.invokevirtual 190, 3) := by decide +kernel
theorem dX8_told_164 : decode cX8_told 164 = .ok (.goto 4, 3) := by decide +kernel
theorem dX8_told_167 : decode cX8_told 167 = .ok (.iconst 0, 1) := by decide +kernel
theorem dX8_told_168 : decode cX8_told 168 = .ok (.ireturn, 1) := by decide +kernel
theorem dX8_told_169 : decode cX8_told 169 = .ok (.iload 4, 2) := by decide +kernel
theorem dX8_told_171 : decode cX8_told 171 = .ok (.ifCond .eq 12, 3) := by decide +kernel
theorem dX8_told_174 : decode cX8_told 174 = .ok (.aload_n 0, 1) := by decide +kernel
theorem dX8_told_175 : decode cX8_told 175 = .ok (.iload_n 1, 1) := by decide +kernel
theorem dX8_told_176 : decode cX8_told 176 = .ok (.iload_n 2, 1) := by decide +kernel
theorem dX8_told_177 : decode cX8_told 177 = .ok (.invokevirtual 193, 3) := by decide +kernel
theorem dX8_told_180 : decode cX8_told 180 = .ok (.goto 4, 3) := by decide +kernel
theorem dX8_told_183 : decode cX8_told 183 = .ok (.iconst (-1), 1) := by decide +kernel
theorem dX8_told_184 : decode cX8_told 184 = .ok (.ireturn, 1) := by decide +kernel
theorem dX8_told_185 : decode cX8_told 185 = .ok (.aload_n 0, 1) := by decide +kernel
theorem dX8_told_186 : decode cX8_told 186 = .ok (.invokevirtual 196, 3) := by decide +kernel
theorem dX8_told_189 : decode cX8_told 189 = .ok (.iload_n 1, 1) := by decide +kernel
theorem dX8_told_190 : decode cX8_told 190 = .ok (.iconst 2, 1) := by decide +kernel
theorem dX8_told_191 : decode cX8_told 191 = .ok (.if_icmp .ne 7, 3) := by decide +kernel
theorem dX8_told_194 : decode cX8_told 194 = .ok (.iconst 0, 1) := by decide +kernel
theorem dX8_told_195 : decode cX8_told 195 = .ok (.goto 9, 3) := by decide +kernel
theorem dX8_told_198 : decode cX8_told 198 = .ok (.aload_n 0, 1) := by decide +kernel
theorem dX8_told_199 : decode cX8_told 199 = .ok (.iload_n 1, 1) := by decide +kernel
theorem dX8_told_200 : decode cX8_told 200 = .ok (.iload_n 2, 1) := by decide +kernel
theorem dX8_told_201 : decode cX8_told 201 = .ok (.invokevirtual 199, 3) := by decide +kernel
theorem dX8_told_204 : decode cX8_told 204 = .ok (.ireturn, 1) := by decide +kernel
theorem dX8_told_205 : decode cX8_told 205 = .ok (.iload 4, 2) := by decide +kernel
theorem dX8_told_207 : decode cX8_told 207 = .ok (.ifCond .eq 16, 3) := by decide +kernel
theorem dX8_told_210 : decode cX8_told 210 = .ok (.aload_n 0, 1) := by decide +kernel
theorem dX8_told_211 : decode cX8_told 211 = .ok (.iload_n 1, 1) := by decide +kernel
theorem dX8_told_212 : decode cX8_told 212 = .ok (.iload_n 2, 1) := by decide +kernel
theorem dX8_told_213 : decode cX8_told 213 = .ok (.invokevirtual 202, 3) := by decide +kernel
theorem dX8_told_216 : decode cX8_told 216 = .ok (.ifCond .eq 7, 3) := by decide +kernel
theorem dX8_told_219 : decode cX8_told 219 = .ok (.iconst 1, 1) := by decide +kernel
theorem dX8_told_220 : decode cX8_told 220 = .ok (.goto 4, 3) := by decide +kernel
theorem dX8_told_223 : decode cX8_told 223 = .ok (.iconst 0, 1) := by decide +kernel
theorem dX8_told_224 : decode cX8_told 224 = .ok (.ireturn, 1) := by decide +kernel
theorem dX8_told_225 : decode cX8_told 225 = .ok (.aload_n 0, 1) := by decide +kernel
theorem dX8_told_226 : decode cX8_told 226 = .ok (.invokevirtual 196, 3) := by decide +kernel
theorem dX8_told_229 : decode cX8_told 229 = .ok (.aload_n 0, 1) := by decide +kernel
theorem dX8_told_230 : decode cX8_told 230 = .ok (.getfield 55, 3) := by decide +kernel
theorem dX8_told_233 : decode cX8_told 233 = .ok (.iload_n 2, 1) := by decide +kernel
theorem dX8_told_234 : decode cX8_told 234 = .ok (.baload, 1) := by decide +kernel
theorem dX8_told_235 : decode cX8_told 235 = .ok (.ifCond .eq 7, 3) := by decide +kernel
theorem dX8_told_238 : decode cX8_told 238 = .ok (.iconst 1, 1) := by decide +kernel
theorem dX8_told_239 : decode cX8_told 239 = .ok (.goto 4, 3) := by decide +kernel
theorem dX8_told_242 : decode cX8_told 242 = .ok (.iconst 0, 1) := by decide +kernel
theorem dX8_told_243 : decode cX8_told 243 = .ok (.ireturn, 1) := by decide +kernel
theorem dX8_told_244 : decode cX8_told 244 = .ok (.aload_n 0, 1) := by decide +kernel
theorem dX8_told_245 : decode cX8_told 245 = .ok (.getfield 9, 3) := by decide +kernel
theorem dX8_told_248 : decode cX8_told 248 = .ok (.iload_n 2, 1) := by decide +kernel
theorem dX8_told_249 : decode cX8_told 249 = .ok (.baload, 1) := by decide +kernel
theorem dX8_told_250 : decode cX8_told 250 = .ok (.ifCond .eq 7, 3) := by decide +kernel
theorem dX8_told_253 : decode cX8_told 253 = .ok (.iconst 1, 1) := by decide +kernel
theorem dX8_told_254 : decode cX8_told 254 = .ok (.goto 4, 3) := by decide +kernel
theorem dX8_told_257 : decode cX8_told 257 = .ok (.iconst 0, 1) := by decide +kernel
theorem dX8_told_258 : decode cX8_told 258 = .ok (.ireturn, 1) := by decide +kernel
theorem dX8_find_0 : decode cX8_find 0 = .ok (.iload_n 1, 1) := by decide +kernel
theorem dX8_find_1 : decode cX8_find 1 = .ok (.invokestatic 187, 3) := by decide +kernel
theorem dX8_find_4 : decode cX8_find 4 = .ok (.ifCond .eq 16, 3) := by decide +kernel
theorem dX8_find_7 : decode cX8_find 7 = .ok (.iload_n 2, 1) := by decide +kernel
theorem dX8_find_8 : decode cX8_find 8 = .ok (.iconst (-1), 1) := by decide +kernel
theorem dX8_find_9 : decode cX8_find 9 = .ok (.if_icmp .eq 14, 3) := by decide +kernel
theorem dX8_find_12 : decode cX8_find 12 = .ok (.aload_n 0, 1) := by decide +kernel
theorem dX8_find_13 : decode cX8_find 13 = .ok (.iload_n 2, 1) := by decide +kernel
theorem dX8_find_14 : decode cX8_find 14 = .ok (.invokevirtual 137, 3) := by decide +kernel
theorem dX8_find_17 : decode cX8_find 17 = .ok (.ifCond .ne 6, 3) := by decide +kernel
theorem dX8_find_20 : decode cX8_find 20 = .ok (.bipush (-2), 2) := by decide +kernel
theorem dX8_find_22 : decode cX8_find 22 = .ok (.ireturn, 1) := by decide +kernel
theorem dX8_find_23 : decode cX8_find 23 = .ok (.aload_n 0, 1) := by decide +kernel
theorem dX8_find_24 : decode cX8_find 24 = .ok (.iload_n 1, 1) := by decide +kernel
theorem dX8_find_25 : decode cX8_find 25 = .ok (.iload_n 2, 1) := by decide +kernel
theorem dX8_find_26 : decode cX8_find 26 = .ok (.iload_n 3, 1) := by decide +kernel
theorem dX8_find_27 : decode cX8_find 27 = .ok (.invokevirtual 164, 3) := by decide +kernel
theorem dX8_find_30 : decode cX8_find 30 = .ok (.ireturn, 1) := by decide +kernel
theorem dX8_taken_0 : decode cX8_taken 0 = .ok (.aload_n 0, 1) := by decide +kernel
theorem dX8_taken_1 : decode cX8_taken 1 = .ok (.iload_n 1, 1) := by decide +kernel
theorem dX8_taken_2 : decode cX8_taken 2 = .ok (.invokevirtual 137, 3) := by decide +kernel
theorem dX8_taken_5 : decode cX8_taken 5 = .ok (.ifCond .eq 12, 3) := by decide +kernel
theorem dX8_taken_8 : decode cX8_taken 8 = .ok (.iload_n 2, 1) := by decide +kernel
theorem dX8_taken_9 : decode cX8_taken 9 = .ok (.iconst 0, 1) := by decide +kernel
theorem dX8_taken_10 : decode cX8_taken 10 = .ok (.iconst 2, 1) := by decide +kernel
theorem dX8_taken_11 : decode cX8_taken 11 = .ok (.invokestatic 133, 3) := by decide +kernel
theorem dX8_taken_14 : decode cX8_taken 14 = .ok (.ifCond .ne 6, 3) := by decide +kernel
theorem dX8_taken_17 : decode cX8_taken 17 = .ok (.bipush (-2), 2) := by decide +kernel
theorem dX8_taken_19 : decode cX8_taken 19 = .ok (.ireturn, 1) := by decide +kernel
theorem dX8_taken_20 : decode cX8_taken 20 = .ok (.iload_n 2, 1) := by decide +kernel
theorem dX8_taken_21 : decode cX8_taken 21 = .ok (.ifCond .ne 20, 3) := by decide +kernel
theorem dX8_taken_24 : decode cX8_taken 24 = .ok (.aload_n 0, 1) := by decide +kernel
theorem dX8_taken_25 : decode cX8_taken 25 = .ok (.getfield 9, 3) := by decide +kernel
theorem dX8_taken_28 : decode cX8_taken 28 = .ok (.iload_n 1, 1) := by decide +kernel
theorem dX8_taken_29 : decode cX8_taken 29 = .ok (.baload, 1) := by decide +kernel
theorem dX8_taken_30 : decode cX8_taken 30 = .ok (.ifCond .ne 7, 3) := by decide +kernel
theorem dX8_taken_33 : decode cX8_taken 33 = .ok (.iconst 1, 1) := by decide +kernel
theorem dX8_taken_34 : decode cX8_taken 34 = .ok (.goto 46, 3) := by decide +kernel
theorem dX8_taken_37 : decode cX8_taken 37 = .ok (.iconst 0, 1) := by decide +kernel
theorem dX8_taken_38 : decode cX8_taken 38 = .ok (.goto 42, 3) := by decide +kernel
theorem dX8_taken_41 : decode cX8_taken 41 = .ok (.iload_n 2, 1) := by decide +kernel
theorem dX8_taken_42 : decode cX8_taken 42 = .ok (.iconst 1, 1) := by decide +kernel
theorem dX8_taken_43 : decode cX8_taken 43 = .ok (.if_icmp .ne 12, 3) := by decide +kernel
theorem dX8_taken_46 : decode cX8_taken 46 = .ok (.aload_n 0, 1) := by decide +kernel
theorem dX8_taken_47 : decode cX8_taken 47 = .ok (.getfield 9, 3) := by decide +kernel
theorem dX8_taken_50 : decode cX8_taken 50 = .ok (.iload_n 1, 1) := by decide +kernel
theorem dX8_taken_51 : decode cX8_taken 51 = .ok (.baload, 1) := by decide +kernel
theorem dX8_taken_52 : decode cX8_taken 52 = .ok (.goto 28, 3) := by decide +kernel
theorem dX8_taken_55 : decode cX8_taken 55 = .ok (.aload_n 0, 1) := by decide +kernel
theorem dX8_taken_56 : decode cX8_taken 56 = .ok (.getfield 15, 3) := by decide +kernel
theorem dX8_taken_59 : decode cX8_taken 59 = .ok (.iconst 0, 1) := by decide +kernel
theorem dX8_taken_60 : decode cX8_taken 60 = .ok (.aaload, 1) := by decide +kernel
theorem dX8_taken_61 : decode cX8_taken 61 = .ok (.iload_n 1, 1) := by decide +kernel
theorem dX8_taken_62 : decode cX8_taken 62 = .ok (.baload, 1) := by decide +kernel
theorem dX8_taken_63 : decode cX8_taken 63 = .ok (.ifCond .eq 16, 3) := by decide +kernel
theorem dX8_taken_66 : decode cX8_taken 66 = .ok (.aload_n 0, 1) := by decide +kernel
theorem dX8_taken_67 : decode cX8_taken 67 = .ok (.iconst 0, 1) := by decide +kernel
theorem dX8_taken_68 : decode cX8_taken 68 = .ok (.iload_n 1, 1) := by decide +kernel
theorem dX8_taken_69 : decode cX8_taken 69 = .ok (.invokevirtual 190, 3) := by decide +kernel
theorem dX8_taken_72 : decode cX8_taken 72 = .ok (.ifCond .le 7, 3) := by decide +kernel
theorem dX8_taken_75 : decode cX8_taken 75 = .ok (.iconst 1, 1) := by decide +kernel
theorem dX8_taken_76 : decode cX8_taken 76 = .ok (.goto 4, 3) := by decide +kernel
theorem dX8_taken_79 : decode cX8_taken 79 = .ok (.iconst 0, 1) := by decide +kernel
theorem dX8_taken_80 : decode cX8_taken 80 = .ok (.istore_n 3, 1) := by decide +kernel
theorem dX8_taken_81 : decode cX8_taken 81 = .ok (.iload_n 3, 1) := by decide +kernel
theorem dX8_taken_82 : decode cX8_taken 82 = .ok (.ifCond .eq 7, 3) := by decide +kernel
theorem dX8_taken_85 : decode cX8_taken 85 = .ok (.iload_n 1, 1) := by decide +kernel
theorem dX8_taken_86 : decode cX8_taken 86 = .ok (.goto 5, 3) := by decide +kernel
theorem dX8_taken_89 : decode cX8_taken 89 = .ok (.bipush (-13), 2) := by decide +kernel
theorem dX8_taken_91 : decode cX8_taken 91 = .ok (.ireturn, 1) := by decide +kernel
theorem dX8_isByte_0 : decode cX8_isByte 0 = .ok (.iload_n 0, 1) := by decide +kernel
theorem dX8_isByte_1 : decode cX8_isByte 1 = .ok (.iconst 0, 1) := by decide +kernel
theorem dX8_isByte_2 : decode cX8_isByte 2 = .ok (.sipush 255, 3) := by decide +kernel
theorem dX8_isByte_5 : decode cX8_isByte 5 = .ok (.invokestatic 133, 3) := by decide +kernel
theorem dX8_isByte_8 : decode cX8_isByte 8 = .ok (.ireturn, 1) := by decide +kernel
theorem dX8_feed_0 : decode cX8_feed 0 = .ok (.iload_n 1, 1) := by decide +kernel
theorem dX8_feed_1 : decode cX8_feed 1 = .ok (.iconst 1, 1) := by decide +kernel
theorem dX8_feed_2 : decode cX8_feed 2 = .ok (.iconst 5, 1) := by decide +kernel
theorem dX8_feed_3 : decode cX8_feed 3 = .ok (.invokestatic 133, 3) := by decide +kernel
theorem dX8_feed_6 : decode cX8_feed 6 = .ok (.ifCond .eq 41, 3) := by decide +kernel
theorem dX8_feed_9 : decode cX8_feed 9 = .ok (.iload_n 2, 1) := by decide +kernel
theorem dX8_feed_10 : decode cX8_feed 10 = .ok (.invokestatic 205, 3) := by decide +kernel
theorem dX8_feed_13 : decode cX8_feed 13 = .ok (.ifCond .eq 34, 3) := by decide +kernel
theorem dX8_feed_16 : decode cX8_feed 16 = .ok (.iload_n 3, 1) := by decide +kernel
theorem dX8_feed_17 : decode cX8_feed 17 = .ok (.invokestatic 205, 3) := by decide +kernel
theorem dX8_feed_20 : decode cX8_feed 20 = .ok (.ifCond .eq 27, 3) := by decide +kernel
theorem dX8_feed_23 : decode cX8_feed 23 = .ok (.iload 4, 2) := by decide +kernel
theorem dX8_feed_25 : decode cX8_feed 25 = .ok (.invokestatic 205, 3) := by decide +kernel
theorem dX8_feed_28 : decode cX8_feed 28 = .ok (.ifCond .eq 19, 3) := by decide +kernel
theorem dX8_feed_31 : decode cX8_feed 31 = .ok (.iload 5, 2) := by decide +kernel
theorem dX8_feed_33 : decode cX8_feed 33 = .ok (.invokestatic 205, 3) := by decide +kernel
theorem dX8_feed_36 : decode cX8_feed 36 = .ok (.ifCond .eq 11, 3) := by decide +kernel
theorem dX8_feed_39 : decode cX8_feed 39 = .ok (.iload 6, 2) := by decide +kernel
theorem dX8_feed_41 : decode cX8_feed 41 = .ok (.invokestatic 205, 3) := by decide +kernel
theorem dX8_feed_44 : decode cX8_feed 44 = .ok (.ifCond .ne 6, 3) := by decide +kernel
theorem dX8_feed_47 : decode cX8_feed 47 = .ok (.bipush (-2), 2) := by decide +kernel
theorem dX8_feed_49 : decode cX8_feed 49 = .ok (.ireturn, 1) := by decide +kernel
theorem dX8_feed_50 : decode cX8_feed 50 = .ok (.aload_n 0, 1) := by decide +kernel
theorem dX8_feed_51 : decode cX8_feed 51 = .ok (.getfield 208, 3) := by decide +kernel
theorem dX8_feed_54 : decode cX8_feed 54 = .ok (.iload_n 1, 1) := by decide +kernel
theorem dX8_feed_55 : decode cX8_feed 55 = .ok (.iadd, 1) := by decide +kernel
theorem dX8_feed_56 : decode cX8_feed 56 = .ok (.bipush 40, 2) := by decide +kernel
theorem dX8_feed_58 : decode cX8_feed 58 = .ok (.if_icmp .le 6, 3) := by decide +kernel
theorem dX8_feed_61 : decode cX8_feed 61 = .ok (.bipush (-4), 2) := by decide +kernel
theorem dX8_feed_63 : decode cX8_feed 63 = .ok (.ireturn, 1) := by decide +kernel
theorem dX8_feed_64 : decode cX8_feed 64 = .ok (.iconst 0, 1) := by decide +kernel
theorem dX8_feed_65 : decode cX8_feed 65 = .ok (.istore 7, 2) := by decide +kernel
theorem dX8_feed_67 : decode cX8_feed 67 = .ok (.iload 7, 2) := by decide +kernel
theorem dX8_feed_69 : decode cX8_feed 69 = .ok (.iload_n 1, 1) := by decide +kernel
theorem dX8_feed_70 : decode cX8_feed 70 = .ok (.if_icmp .ge 64, 3) := by decide +kernel
theorem dX8_feed_73 : decode cX8_feed 73 = .ok (.aload_n 0, 1) := by decide +kernel
theorem dX8_feed_74 : decode cX8_feed 74 = .ok (.getfield 46, 3) := by decide +kernel
theorem dX8_feed_77 : decode cX8_feed 77 = .ok (.aload_n 0, 1) := by decide +kernel
theorem dX8_feed_78 : decode cX8_feed 78 = .ok (.getfield 208, 3) := by decide +kernel
theorem dX8_feed_81 : decode cX8_feed 81 = .ok (.iload 7, 2) := by decide +kernel
theorem dX8_feed_83 : decode cX8_feed 83 = .ok (.iadd, 1) := by decide +kernel
theorem dX8_feed_84 : decode cX8_feed 84 = .ok (.iload 7, 2) := by decide +kernel
theorem dX8_feed_86 : decode cX8_feed 86 = .ok (.ifCond .ne 7, 3) := by decide +kernel
theorem dX8_feed_89 : decode cX8_feed 89 = .ok (.iload_n 2, 1) := by decide +kernel
theorem dX8_feed_90 : decode cX8_feed 90 = .ok (.goto 37, 3) := by decide +kernel
theorem dX8_feed_93 : decode cX8_feed 93 = .ok (.iload 7, 2) := by decide +kernel
theorem dX8_feed_95 : decode cX8_feed 95 = .ok (.iconst 1, 1) := by decide +kernel
theorem dX8_feed_96 : decode cX8_feed 96 = .ok (.if_icmp .ne 7, 3) := by decide +kernel
theorem dX8_feed_99 : decode cX8_feed 99 = .ok (.iload_n 3, 1) := by decide +kernel
theorem dX8_feed_100 : decode cX8_feed 100 = .ok (.goto 27, 3) := by decide +kernel
theorem dX8_feed_103 : decode cX8_feed 103 = .ok (.iload 7, 2) := by decide +kernel
theorem dX8_feed_105 : decode cX8_feed 105 = .ok (.iconst 2, 1) := by decide +kernel
theorem dX8_feed_106 : decode cX8_feed 106 = .ok (.if_icmp .ne 8, 3) := by decide +kernel
theorem dX8_feed_109 : decode cX8_feed 109 = .ok (.iload 4, 2) := by decide +kernel
theorem dX8_feed_111 : decode cX8_feed 111 = .ok (.goto 16, 3) := by decide +kernel
theorem dX8_feed_114 : decode cX8_feed 114 = .ok (.iload 7, 2) := by decide +kernel
theorem dX8_feed_116 : decode cX8_feed 116 = .ok (.iconst 3, 1) := by decide +kernel
theorem dX8_feed_117 : decode cX8_feed 117 = .ok (.if_icmp .ne 8, 3) := by decide +kernel
theorem dX8_feed_120 : decode cX8_feed 120 = .ok (.iload 5, 2) := by decide +kernel
theorem dX8_feed_122 : decode cX8_feed 122 = .ok (.goto 5, 3) := by decide +kernel
theorem dX8_feed_125 : decode cX8_feed 125 = .ok (.iload 6, 2) := by decide +kernel
theorem dX8_feed_127 : decode cX8_feed 127 = .ok (.iastore, 1) := by decide +kernel
theorem dX8_feed_128 : decode cX8_feed 128 = .ok (.iinc 7 1, 3) := by decide +kernel
theorem dX8_feed_131 : decode cX8_feed 131 = .ok (.goto (-64), 3) := by decide +kernel
theorem dX8_feed_134 : decode cX8_feed 134 = .ok (.aload_n 0, 1) := by decide +kernel
theorem dX8_feed_135 : decode cX8_feed 135 = .ok (.dup, 1) := by decide +kernel
theorem dX8_feed_136 : decode cX8_feed 136 = .ok (.getfield 208, 3) := by decide +kernel
theorem dX8_feed_139 : decode cX8_feed 139 = .ok (.iload_n 1, 1) := by decide +kernel
theorem dX8_feed_140 : decode cX8_feed 140 = .ok (.iadd, 1) := by decide +kernel
theorem dX8_feed_141 : decode cX8_feed 141 = .ok (.putfield 208, 3) := by decide +kernel
theorem dX8_feed_144 : decode cX8_feed 144 = .ok (.aload_n 0, 1) := by decide +kernel
theorem dX8_feed_145 : decode cX8_feed 145 = .ok (.getfield 208, 3) := by decide +kernel
theorem dX8_feed_148 : decode cX8_feed 148 = .ok (.ireturn, 1) := by decide +kernel
theorem dX8_byteAt_0 : decode cX8_byteAt 0 = .ok (.iload_n 1, 1) := by decide +kernel
theorem dX8_byteAt_1 : decode cX8_byteAt 1 = .ok (.aload_n 0, 1) := by decide +kernel
theorem dX8_byteAt_2 : decode cX8_byteAt 2 = .ok (.getfield 208, 3) := by decide +kernel
theorem dX8_byteAt_5 : decode cX8_byteAt 5 = .ok (.if_icmp .ge 12, 3) := by decide +kernel
theorem dX8_byteAt_8 : decode cX8_byteAt 8 = .ok (.aload_n 0, 1) := by decide +kernel
theorem dX8_byteAt_9 : decode cX8_byteAt 9 = .ok (.getfield 46, 3) := by decide +kernel
theorem dX8_byteAt_12 : decode cX8_byteAt 12 = .ok (.iload_n 1, 1) := by decide +kernel
theorem dX8_byteAt_13 : decode cX8_byteAt 13 = .ok (.iaload, 1) := by decide +kernel
theorem dX8_byteAt_14 : decode cX8_byteAt 14 = .ok (.goto 4, 3) := by decide +kernel
theorem dX8_byteAt_17 : decode cX8_byteAt 17 = .ok (.iconst (-1), 1) := by decide +kernel
theorem dX8_byteAt_18 : decode cX8_byteAt 18 = .ok (.ireturn, 1) := by decide +kernel
theorem dX8_next_0 : decode cX8_next 0 = .ok (.aload_n 0, 1) := by decide +kernel
theorem dX8_next_1 : decode cX8_next 1 = .ok (.getfield 211, 3) := by decide +kernel
theorem dX8_next_4 : decode cX8_next 4 = .ok (.ifCond .eq 4, 3) := by decide +kernel
theorem dX8_next_7 : decode cX8_next 7 = .ok (.return_, 1) := by decide +kernel
theorem dX8_next_8 : decode cX8_next 8 = .ok (.aload_n 0, 1) := by decide +kernel
theorem dX8_next_9 : decode cX8_next 9 = .ok (.aload_n 0, 1) := by decide +kernel
theorem dX8_next_10 : decode cX8_next 10 = .ok (.getfield 215, 3) := by decide +kernel
theorem dX8_next_13 : decode cX8_next 13 = .ok (.invokevirtual 218, 3) := by decide +kernel
theorem dX8_next_16 : decode cX8_next 16 = .ok (.bipush 32, 2) := by decide +kernel
theorem dX8_next_18 : decode cX8_next 18 = .ok (.if_icmp .eq 16, 3) := by decide +kernel
theorem dX8_next_21 : decode cX8_next 21 = .ok (.aload_n 0, 1) := by decide +kernel
theorem dX8_next_22 : decode cX8_next 22 = .ok (.aload_n 0, 1) := by decide +kernel
theorem dX8_next_23 : decode cX8_next 23 = .ok (.getfield 215, 3) := by decide +kernel
theorem dX8_next_26 : decode cX8_next 26 = .ok (.invokevirtual 218, 3) := by decide +kernel
theorem dX8_next_29 : decode cX8_next 29 = .ok (.bipush 10, 2) := by decide +kernel
theorem dX8_next_31 : decode cX8_next 31 = .ok (.if_icmp .ne 16, 3) := by decide +kernel
theorem dX8_next_34 : decode cX8_next 34 = .ok (.aload_n 0, 1) := by decide +kernel
theorem dX8_next_35 : decode cX8_next 35 = .ok (.dup, 1) := by decide +kernel
theorem dX8_next_36 : decode cX8_next 36 = .ok (.getfield 215, 3) := by decide +kernel
theorem dX8_next_39 : decode cX8_next 39 = .ok (.iconst 1, 1) := by decide +kernel
theorem dX8_next_40 : decode cX8_next 40 = .ok (.iadd, 1) := by decide +kernel
theorem dX8_next_41 : decode cX8_next 41 = .ok (.putfield 215, 3) := by decide +kernel
theorem dX8_next_44 : decode cX8_next 44 = .ok (.goto (-36), 3) := by decide +kernel
theorem dX8_next_47 : decode cX8_next 47 = .ok (.aload_n 0, 1) := by decide +kernel
theorem dX8_next_48 : decode cX8_next 48 = .ok (.aload_n 0, 1) := by decide +kernel
theorem dX8_next_49 : decode cX8_next 49 = .ok (.getfield 215, 3) := by decide +kernel
theorem dX8_next_52 : decode cX8_next 52 = .ok (.putfield 221, 3) := by decide +kernel
theorem dX8_next_55 : decode cX8_next 55 = .ok (.aload_n 0, 1) := by decide +kernel
theorem dX8_next_56 : decode cX8_next 56 = .ok (.aload_n 0, 1) := by decide +kernel
theorem dX8_next_57 : decode cX8_next 57 = .ok (.getfield 215, 3) := by decide +kernel
theorem dX8_next_60 : decode cX8_next 60 = .ok (.invokevirtual 218, 3) := by decide +kernel
theorem dX8_next_63 : decode cX8_next 63 = .ok (.istore_n 1, 1) := by decide +kernel
theorem dX8_next_64 : decode cX8_next 64 = .ok (.aload_n 0, 1) := by decide +kernel
theorem dX8_next_65 : decode cX8_next 65 = .ok (.iload_n 1, 1) := by decide +kernel
theorem dX8_next_66 : decode cX8_next 66 = .ok (.iconst (-1), 1) := by decide +kernel
theorem dX8_next_67 : decode cX8_next 67 = .ok (.if_icmp .ne 7, 3) := by decide +kernel
theorem dX8_next_70 : decode cX8_next 70 = .ok (.iconst 0, 1) := by decide +kernel
theorem dX8_next_71 : decode cX8_next 71 = .ok (.goto 24, 3) := by decide +kernel
theorem dX8_next_74 : decode cX8_next 74 = .ok (.iload_n 1, 1) := by decide +kernel
theorem dX8_next_75 : decode cX8_next 75 = .ok (.bipush 33, 2) := by decide +kernel
theorem dX8_next_77 : decode cX8_next 77 = .ok (.if_icmp .ne 7, 3) := by decide +kernel
theorem dX8_next_80 : decode cX8_next 80 = .ok (.iconst 2, 1) := by decide +kernel
theorem dX8_next_81 : decode cX8_next 81 = .ok (.goto 14, 3) := by decide +kernel
theorem dX8_next_84 : decode cX8_next 84 = .ok (.iload_n 1, 1) := by decide +kernel
theorem dX8_next_85 : decode cX8_next 85 = .ok (.bipush 47, 2) := by decide +kernel
theorem dX8_next_87 : decode cX8_next 87 = .ok (.if_icmp .ne 7, 3) := by decide +kernel
theorem dX8_next_90 : decode cX8_next 90 = .ok (.iconst 3, 1) := by decide +kernel
theorem dX8_next_91 : decode cX8_next 91 = .ok (.goto 4, 3) := by decide +kernel
theorem dX8_next_94 : decode cX8_next 94 = .ok (.iconst 1, 1) := by decide +kernel
theorem dX8_next_95 : decode cX8_next 95 = .ok (.putfield 224, 3) := by decide +kernel
theorem dX8_next_98 : decode cX8_next 98 = .ok (.iload_n 1, 1) := by decide +kernel
theorem dX8_next_99 : decode cX8_next 99 = .ok (.iconst (-1), 1) := by decide +kernel
theorem dX8_next_100 : decode cX8_next 100 = .ok (.if_icmp .ne 4, 3) := by decide +kernel
theorem dX8_next_103 : decode cX8_next 103 = .ok (.return_, 1) := by decide +kernel
theorem dX8_next_104 : decode cX8_next 104 = .ok (.aload_n 0, 1) := by decide +kernel
theorem dX8_next_105 : decode cX8_next 105 = .ok (.dup, 1) := by decide +kernel
theorem dX8_next_106 : decode cX8_next 106 = .ok (.getfield 215, 3) := by decide +kernel
theorem dX8_next_109 : decode cX8_next 109 = .ok (.iconst 1, 1) := by decide +kernel
theorem dX8_next_110 : decode cX8_next 110 = .ok (.iadd, 1) := by decide +kernel
theorem dX8_next_111 : decode cX8_next 111 = .ok (.putfield 215, 3) := by decide +kernel
theorem dX8_next_114 : decode cX8_next 114 = .ok (.iload_n 1, 1) := by decide +kernel
theorem dX8_next_115 : decode cX8_next 115 = .ok (.bipush 42, 2) := by decide +kernel
theorem dX8_next_117 : decode cX8_next 117 = .ok (.if_icmp .ne 53, 3) := by decide +kernel
theorem dX8_next_120 : decode cX8_next 120 = .ok (.aload_n 0, 1) := by decide +kernel
theorem dX8_next_121 : decode cX8_next 121 = .ok (.aload_n 0, 1) := by decide +kernel
theorem dX8_next_122 : decode cX8_next 122 = .ok (.getfield 215, 3) := by decide +kernel
theorem dX8_next_125 : decode cX8_next 125 = .ok (.invokevirtual 218, 3) := by decide +kernel
theorem dX8_next_128 : decode cX8_next 128 = .ok (.bipush 42, 2) := by decide +kernel
theorem dX8_next_130 : decode cX8_next 130 = .ok (.if_icmp .ne 7, 3) := by decide +kernel
theorem dX8_next_133 : decode cX8_next 133 = .ok (.iconst 1, 1) := by decide +kernel
theorem dX8_next_134 : decode cX8_next 134 = .ok (.goto 4, 3) := by decide +kernel
theorem dX8_next_137 : decode cX8_next 137 = .ok (.iconst 0, 1) := by decide +kernel
theorem dX8_next_138 : decode cX8_next 138 = .ok (.istore_n 2, 1) := by decide +kernel
theorem dX8_next_139 : decode cX8_next 139 = .ok (.iload_n 2, 1) := by decide +kernel
theorem dX8_next_140 : decode cX8_next 140 = .ok (.ifCond .eq 13, 3) := by decide +kernel
theorem dX8_next_143 : decode cX8_next 143 = .ok (.aload_n 0, 1) := by decide +kernel
theorem dX8_next_144 : decode cX8_next 144 = .ok (.dup, 1) := by decide +kernel
theorem dX8_next_145 : decode cX8_next 145 = .ok (.getfield 215, 3) := by decide +kernel
theorem dX8_next_148 : decode cX8_next 148 = .ok (.iconst 1, 1) := by decide +kernel
theorem dX8_next_149 : decode cX8_next 149 = .ok (.iadd, 1) := by decide +kernel
theorem dX8_next_150 : decode cX8_next 150 = .ok (.putfield 215, 3) := by decide +kernel
theorem dX8_next_153 : decode cX8_next 153 = .ok (.aload_n 0, 1) := by decide +kernel
theorem dX8_next_154 : decode cX8_next 154 = .ok (.iload_n 2, 1) := by decide +kernel
theorem dX8_next_155 : decode cX8_next 155 = .ok (.ifCond .eq 8, 3) := by decide +kernel
theorem dX8_next_158 : decode cX8_next 158 = .ok (.bipush (-2), 2) := by decide +kernel
theorem dX8_next_160 : decode cX8_next 160 = .ok (.goto 4, 3) := by decide +kernel
theorem dX8_next_163 : decode cX8_next 163 = .ok (.iconst (-1), 1) := by decide +kernel
theorem dX8_next_164 : decode cX8_next 164 = .ok (.putfield 227, 3) := by decide +kernel
theorem dX8_next_167 : decode cX8_next 167 = .ok (.goto 127, 3) := by decide +kernel
theorem dX8_next_170 : decode cX8_next 170 = .ok (.iload_n 1, 1) := by decide +kernel
theorem dX8_next_171 : decode cX8_next 171 = .ok (.bipush 48, 2) := by decide +kernel
theorem dX8_next_173 : decode cX8_next 173 = .ok (.bipush 57, 2) := by decide +kernel
theorem dX8_next_175 : decode cX8_next 175 = .ok (.invokestatic 133, 3) := by decide +kernel
theorem dX8_next_178 : decode cX8_next 178 = .ok (.ifCond .eq 103, 3) := by decide +kernel
theorem dX8_next_181 : decode cX8_next 181 = .ok (.aload_n 0, 1) := by decide +kernel
theorem dX8_next_182 : decode cX8_next 182 = .ok (.iload_n 1, 1) := by decide +kernel
theorem dX8_next_183 : decode cX8_next 183 = .ok (.bipush 48, 2) := by decide +kernel
theorem dX8_next_185 : decode cX8_next 185 = .ok (.isub, 1) := by decide +kernel
theorem dX8_next_186 : decode cX8_next 186 = .ok (.putfield 227, 3) := by decide +kernel
theorem dX8_next_189 : decode cX8_next 189 = .ok (.aload_n 0, 1) := by decide +kernel
theorem dX8_next_190 : decode cX8_next 190 = .ok (.aload_n 0, 1) := by decide +kernel
theorem dX8_next_191 : decode cX8_next 191 = .ok (.getfield 215, 3) := by decide +kernel
theorem dX8_next_194 : decode cX8_next 194 = .ok (.invokevirtual 218, 3) := by decide +kernel
theorem dX8_next_197 : decode cX8_next 197 = .ok (.bipush 48, 2) := by decide +kernel
theorem dX8_next_199 : decode cX8_next 199 = .ok (.bipush 57, 2) := by decide +kernel
theorem dX8_next_201 : decode cX8_next 201 = .ok (.invokestatic 133, 3) := by decide +kernel
theorem dX8_next_204 : decode cX8_next 204 = .ok (.ifCond .eq 52, 3) := by decide +kernel
theorem dX8_next_207 : decode cX8_next 207 = .ok (.aload_n 0, 1) := by decide +kernel
theorem dX8_next_208 : decode cX8_next 208 = .ok (.getfield 215, 3) := by decide +kernel
theorem dX8_next_211 : decode cX8_next 211 = .ok (.aload_n 0, 1) := by decide +kernel
theorem dX8_next_212 : decode cX8_next 212 = .ok (.getfield 221, 3) := by decide +kernel
theorem dX8_next_215 : decode cX8_next 215 = .ok (.isub, 1) := by decide +kernel
theorem dX8_next_216 : decode cX8_next 216 = .ok (.iconst 2, 1) := by decide +kernel
theorem dX8_next_217 : decode cX8_next 217 = .ok (.if_icmp .ge 26, 3) := by decide +kernel
theorem dX8_next_220 : decode cX8_next 220 = .ok (.aload_n 0, 1) := by decide +kernel
theorem dX8_next_221 : decode cX8_next 221 = .ok (.bipush 10, 2) := by decide +kernel
theorem dX8_next_223 : decode cX8_next 223 = .ok (.aload_n 0, 1) := by decide +kernel
theorem dX8_next_224 : decode cX8_next 224 = .ok (.getfield 227, 3) := by decide +kernel
theorem dX8_next_227 : decode cX8_next 227 = .ok (.imul, 1) := by decide +kernel
theorem dX8_next_228 : decode cX8_next 228 = .ok (.aload_n 0, 1) := by decide +kernel
theorem dX8_next_229 : decode cX8_next 229 = .ok (.aload_n 0, 1) := by decide +kernel
theorem dX8_next_230 : decode cX8_next 230 = .ok (.getfield 215, 3) := by decide +kernel
theorem dX8_next_233 : decode cX8_next 233 = .ok (.invokevirtual 218, 3) := by decide +kernel
theorem dX8_next_236 : decode cX8_next 236 = .ok (.iadd, 1) := by decide +kernel
theorem dX8_next_237 : decode cX8_next 237 = .ok (.bipush 48, 2) := by decide +kernel
theorem dX8_next_239 : decode cX8_next 239 = .ok (.isub, 1) := by decide +kernel
theorem dX8_next_240 : decode cX8_next 240 = .ok (.putfield 227, 3) := by decide +kernel
theorem dX8_next_243 : decode cX8_next 243 = .ok (.aload_n 0, 1) := by decide +kernel
theorem dX8_next_244 : decode cX8_next 244 = .ok (.dup, 1) := by decide +kernel
theorem dX8_next_245 : decode cX8_next 245 = .ok (.getfield 215, 3) := by decide +kernel
theorem dX8_next_248 : decode cX8_next 248 = .ok (.iconst 1, 1) := by decide +kernel
theorem dX8_next_249 : decode cX8_next 249 = .ok (.iadd, 1) := by decide +kernel
theorem dX8_next_250 : decode cX8_next 250 = .ok (.putfield 215, 3) := by decide +kernel
theorem dX8_next_253 : decode cX8_next 253 = .ok (.goto (-64), 3) := by decide +kernel
theorem dX8_next_256 : decode cX8_next 256 = .ok (.aload_n 0, 1) := by decide +kernel
theorem dX8_next_257 : decode cX8_next 257 = .ok (.aload_n 0, 1) := by decide +kernel
theorem dX8_next_258 : decode cX8_next 258 = .ok (.getfield 215, 3) := by decide +kernel
theorem dX8_next_261 : decode cX8_next 261 = .ok (.aload_n 0, 1) := by decide +kernel
theorem dX8_next_262 : decode cX8_next 262 = .ok (.getfield 221, 3) := by decide +kernel
theorem dX8_next_265 : decode cX8_next 265 = .ok (.isub, 1) := by decide +kernel
theorem dX8_next_266 : decode cX8_next 266 = .ok (.iconst 2, 1) := by decide +kernel
theorem dX8_next_267 : decode cX8_next 267 = .ok (.if_icmp .le 7, 3) := by decide +kernel
theorem dX8_next_270 : decode cX8_next 270 = .ok (.iconst 1, 1) := by decide +kernel
theorem dX8_next_271 : decode cX8_next 271 = .ok (.goto 4, 3) := by decide +kernel
theorem dX8_next_274 : decode cX8_next 274 = .ok (.iconst 0, 1) := by decide +kernel
theorem dX8_next_275 : decode cX8_next 275 = .ok (.putfield 211, 3) := by decide +kernel
theorem dX8_next_278 : decode cX8_next 278 = .ok (.goto 16, 3) := by decide +kernel
theorem dX8_next_281 : decode cX8_next 281 = .ok (.aload_n 0, 1) := by decide +kernel
theorem dX8_next_282 : decode cX8_next 282 = .ok (.getfield 224, 3) := by decide +kernel
theorem dX8_next_285 : decode cX8_next 285 = .ok (.iconst 1, 1) := by decide +kernel
theorem dX8_next_286 : decode cX8_next 286 = .ok (.if_icmp .ne 8, 3) := by decide +kernel
theorem dX8_next_289 : decode cX8_next 289 = .ok (.aload_n 0, 1) := by decide +kernel
theorem dX8_next_290 : decode cX8_next 290 = .ok (.iconst 1, 1) := by decide +kernel
theorem dX8_next_291 : decode cX8_next 291 = .ok (.putfield 211, 3) := by decide +kernel
theorem dX8_next_294 : decode cX8_next 294 = .ok (.return_, 1) := by decide +kernel
theorem dX8_part_0 : decode cX8_part 0 = .ok (.aload_n 0, 1) := by decide +kernel
theorem dX8_part_1 : decode cX8_part 1 = .ok (.getfield 224, 3) := by decide +kernel
theorem dX8_part_4 : decode cX8_part 4 = .ok (.iconst 1, 1) := by decide +kernel
theorem dX8_part_5 : decode cX8_part 5 = .ok (.if_icmp .eq 8, 3) := by decide +kernel
theorem dX8_part_8 : decode cX8_part 8 = .ok (.aload_n 0, 1) := by decide +kernel
theorem dX8_part_9 : decode cX8_part 9 = .ok (.iconst 1, 1) := by decide +kernel
theorem dX8_part_10 : decode cX8_part 10 = .ok (.putfield 211, 3) := by decide +kernel
theorem dX8_part_13 : decode cX8_part 13 = .ok (.aload_n 0, 1) := by decide +kernel
theorem dX8_part_14 : decode cX8_part 14 = .ok (.getfield 211, 3) := by decide +kernel
theorem dX8_part_17 : decode cX8_part 17 = .ok (.ifCond .eq 4, 3) := by decide +kernel
theorem dX8_part_20 : decode cX8_part 20 = .ok (.return_, 1) := by decide +kernel
theorem dX8_part_21 : decode cX8_part 21 = .ok (.aload_n 0, 1) := by decide +kernel
theorem dX8_part_22 : decode cX8_part 22 = .ok (.getfield 43, 3) := by decide +kernel
theorem dX8_part_25 : decode cX8_part 25 = .ok (.aload_n 0, 1) := by decide +kernel
theorem dX8_part_26 : decode cX8_part 26 = .ok (.getfield 230, 3) := by decide +kernel
theorem dX8_part_29 : decode cX8_part 29 = .ok (.aaload, 1) := by decide +kernel
theorem dX8_part_30 : decode cX8_part 30 = .ok (.aload_n 0, 1) := by decide +kernel
theorem dX8_part_31 : decode cX8_part 31 = .ok (.getfield 39, 3) := by decide +kernel
theorem dX8_part_34 : decode cX8_part 34 = .ok (.aload_n 0, 1) := by decide +kernel
theorem dX8_part_35 : decode cX8_part 35 = .ok (.getfield 230, 3) := by decide +kernel
theorem dX8_part_38 : decode cX8_part 38 = .ok (.iaload, 1) := by decide +kernel
theorem dX8_part_39 : decode cX8_part 39 = .ok (.aload_n 0, 1) := by decide +kernel
theorem dX8_part_40 : decode cX8_part 40 = .ok (.getfield 227, 3) := by decide +kernel
theorem dX8_part_43 : decode cX8_part 43 = .ok (.iastore, 1) := by decide +kernel
theorem dX8_part_44 : decode cX8_part 44 = .ok (.aload_n 0, 1) := by decide +kernel
theorem dX8_part_45 : decode cX8_part 45 = .ok (.getfield 39, 3) := by decide +kernel
theorem dX8_part_48 : decode cX8_part 48 = .ok (.aload_n 0, 1) := by decide +kernel
theorem dX8_part_49 : decode cX8_part 49 = .ok (.getfield 230, 3) := by decide +kernel
theorem dX8_part_52 : decode cX8_part 52 = .ok (.dup2, 1) := by decide +kernel
theorem dX8_part_53 : decode cX8_part 53 = .ok (.iaload, 1) := by decide +kernel
theorem dX8_part_54 : decode cX8_part 54 = .ok (.iconst 1, 1) := by decide +kernel
theorem dX8_part_55 : decode cX8_part 55 = .ok (.iadd, 1) := by decide +kernel
theorem dX8_part_56 : decode cX8_part 56 = .ok (.iastore, 1) := by decide +kernel
theorem dX8_part_57 : decode cX8_part 57 = .ok (.aload_n 0, 1) := by decide +kernel
theorem dX8_part_58 : decode cX8_part 58 = .ok (.invokevirtual 233, 3) := by decide +kernel
theorem dX8_part_61 : decode cX8_part 61 = .ok (.return_, 1) := by decide +kernel
theorem dX8_pattern_0 : decode cX8_pattern 0 = .ok (.aload_n 0, 1) := by decide +kernel
theorem dX8_pattern_1 : decode cX8_pattern 1 = .ok (.getfield 230, 3) := by decide +kernel
theorem dX8_pattern_4 : decode cX8_pattern 4 = .ok (.bipush 6, 2) := by decide +kernel
theorem dX8_pattern_6 : decode cX8_pattern 6 = .ok (.if_icmp .ne 6, 3) := by decide +kernel
theorem dX8_pattern_9 : decode cX8_pattern 9 = .ok (.bipush (-4), 2) := by decide +kernel
theorem dX8_pattern_11 : decode cX8_pattern 11 = .ok (.ireturn, 1) := by decide +kernel
theorem dX8_pattern_12 : decode cX8_pattern 12 = .ok (.aload_n 0, 1) := by decide +kernel
theorem dX8_pattern_13 : decode cX8_pattern 13 = .ok (.iconst 0, 1) := by decide +kernel
theorem dX8_pattern_14 : decode cX8_pattern 14 = .ok (.putfield 215, 3) := by decide +kernel
theorem dX8_pattern_17 : decode cX8_pattern 17 = .ok (.aload_n 0, 1) := by decide +kernel
theorem dX8_pattern_18 : decode cX8_pattern 18 = .ok (.iconst 0, 1) := by decide +kernel
theorem dX8_pattern_19 : decode cX8_pattern 19 = .ok (.putfield 211, 3) := by decide +kernel
theorem dX8_pattern_22 : decode cX8_pattern 22 = .ok (.aload_n 0, 1) := by decide +kernel
theorem dX8_pattern_23 : decode cX8_pattern 23 = .ok (.getfield 39, 3) := by decide +kernel
theorem dX8_pattern_26 : decode cX8_pattern 26 = .ok (.aload_n 0, 1) := by decide +kernel
theorem dX8_pattern_27 : decode cX8_pattern 27 = .ok (.getfield 230, 3) := by decide +kernel
theorem dX8_pattern_30 : decode cX8_pattern 30 = .ok (.iconst 0, 1) := by decide +kernel
theorem dX8_pattern_31 : decode cX8_pattern 31 = .ok (.iastore, 1) := by decide +kernel
theorem dX8_pattern_32 : decode cX8_pattern 32 = .ok (.aload_n 0, 1) := by decide +kernel
theorem dX8_pattern_33 : decode cX8_pattern 33 = .ok (.invokevirtual 233, 3) := by decide +kernel
theorem dX8_pattern_36 : decode cX8_pattern 36 = .ok (.aload_n 0, 1) := by decide +kernel
theorem dX8_pattern_37 : decode cX8_pattern 37 = .ok (.getfield 36, 3) := by decide +kernel
theorem dX8_pattern_40 : decode cX8_pattern 40 = .ok (.aload_n 0, 1) := by decide +kernel
theorem dX8_pattern_41 : decode cX8_pattern 41 = .ok (.getfield 230, 3) := by decide +kernel
theorem dX8_pattern_44 : decode cX8_pattern 44 = .ok (.aload_n 0, 1) := by decide +kernel
theorem dX8_pattern_45 : decode cX8_pattern 45 = .ok (.getfield 211, 3) := by decide +kernel
theorem dX8_pattern_48 : decode cX8_pattern 48 = .ok (.ifCond .ne 15, 3) := by decide +kernel
theorem dX8_pattern_51 : decode cX8_pattern 51 = .ok (.aload_n 0, 1) := by decide +kernel
theorem dX8_pattern_52 : decode cX8_pattern 52 = .ok (.getfield 224, 3) := by decide +kernel
theorem dX8_pattern_55 : decode cX8_pattern 55 = .ok (.iconst 2, 1) := by decide +kernel
theorem dX8_pattern_56 : decode cX8_pattern 56 = .ok (.if_icmp .ne 7, 3) := by decide +kernel
theorem dX8_pattern_59 : decode cX8_pattern 59 = .ok (.iconst 1, 1) := by decide +kernel
theorem dX8_pattern_60 : decode cX8_pattern 60 = .ok (.goto 4, 3) := by decide +kernel
theorem dX8_pattern_63 : decode cX8_pattern 63 = .ok (.iconst 0, 1) := by decide +kernel
theorem dX8_pattern_64 : decode cX8_pattern 64 = .ok (.bastore, 1) := by decide +kernel
theorem dX8_pattern_65 : decode cX8_pattern 65 = .ok (.aload_n 0, 1) := by decide +kernel
theorem dX8_pattern_66 : decode cX8_pattern 66 = .ok (.getfield 36, 3) := by decide +kernel
theorem dX8_pattern_69 : decode cX8_pattern 69 = .ok (.aload_n 0, 1) := by decide +kernel
theorem dX8_pattern_70 : decode cX8_pattern 70 = .ok (.getfield 230, 3) := by decide +kernel
theorem dX8_pattern_73 : decode cX8_pattern 73 = .ok (.baload, 1) := by decide +kernel
theorem dX8_pattern_74 : decode cX8_pattern 74 = .ok (.ifCond .eq 7, 3) := by decide +kernel
theorem dX8_pattern_77 : decode cX8_pattern 77 = .ok (.aload_n 0, 1) := by decide +kernel
theorem dX8_pattern_78 : decode cX8_pattern 78 = .ok (.invokevirtual 233, 3) := by decide +kernel
theorem dX8_pattern_81 : decode cX8_pattern 81 = .ok (.aload_n 0, 1) := by decide +kernel
theorem dX8_pattern_82 : decode cX8_pattern 82 = .ok (.invokevirtual 236, 3) := by decide +kernel
theorem dX8_pattern_85 : decode cX8_pattern 85 = .ok (.aload_n 0, 1) := by decide +kernel
theorem dX8_pattern_86 : decode cX8_pattern 86 = .ok (.getfield 211, 3) := by decide +kernel
theorem dX8_pattern_89 : decode cX8_pattern 89 = .ok (.ifCond .ne 41, 3) := by decide +kernel
theorem dX8_pattern_92 : decode cX8_pattern 92 = .ok (.aload_n 0, 1) := by decide +kernel
theorem dX8_pattern_93 : decode cX8_pattern 93 = .ok (.getfield 224, 3) := by decide +kernel
theorem dX8_pattern_96 : decode cX8_pattern 96 = .ok (.iconst 3, 1) := by decide +kernel
theorem dX8_pattern_97 : decode cX8_pattern 97 = .ok (.if_icmp .ne 33, 3) := by decide +kernel
theorem dX8_pattern_100 : decode cX8_pattern 100 = .ok (.aload_n 0, 1) := by decide +kernel
theorem dX8_pattern_101 : decode cX8_pattern 101 = .ok (.getfield 39, 3) := by decide +kernel
theorem dX8_pattern_104 : decode cX8_pattern 104 = .ok (.aload_n 0, 1) := by decide +kernel
theorem dX8_pattern_105 : decode cX8_pattern 105 = .ok (.getfield 230, 3) := by decide +kernel
theorem dX8_pattern_108 : decode cX8_pattern 108 = .ok (.iaload, 1) := by decide +kernel
theorem dX8_pattern_109 : decode cX8_pattern 109 = .ok (.bipush 8, 2) := by decide +kernel
theorem dX8_pattern_111 : decode cX8_pattern 111 = .ok (.if_icmp .ne 8, 3) := by decide +kernel
theorem dX8_pattern_114 : decode cX8_pattern 114 = .ok (.aload_n 0, 1) := by decide +kernel
theorem dX8_pattern_115 : decode cX8_pattern 115 = .ok (.iconst 1, 1) := by decide +kernel
theorem dX8_pattern_116 : decode cX8_pattern 116 = .ok (.putfield 211, 3) := by decide +kernel
theorem dX8_pattern_119 : decode cX8_pattern 119 = .ok (.aload_n 0, 1) := by decide +kernel
theorem dX8_pattern_120 : decode cX8_pattern 120 = .ok (.invokevirtual 233, 3) := by decide +kernel
theorem dX8_pattern_123 : decode cX8_pattern 123 = .ok (.aload_n 0, 1) := by decide +kernel
theorem dX8_pattern_124 : decode cX8_pattern 124 = .ok (.invokevirtual 236, 3) := by decide +kernel
theorem dX8_pattern_127 : decode cX8_pattern 127 = .ok (.goto (-42), 3) := by decide +kernel
theorem dX8_pattern_130 : decode cX8_pattern 130 = .ok (.aload_n 0, 1) := by decide +kernel
theorem dX8_pattern_131 : decode cX8_pattern 131 = .ok (.dup, 1) := by decide +kernel
theorem dX8_pattern_132 : decode cX8_pattern 132 = .ok (.getfield 211, 3) := by decide +kernel
theorem dX8_pattern_135 : decode cX8_pattern 135 = .ok (.aload_n 0, 1) := by decide +kernel
theorem dX8_pattern_136 : decode cX8_pattern 136 = .ok (.getfield 224, 3) := by decide +kernel
theorem dX8_pattern_139 : decode cX8_pattern 139 = .ok (.ifCond .eq 7, 3) := by decide +kernel
theorem dX8_pattern_142 : decode cX8_pattern 142 = .ok (.iconst 1, 1) := by decide +kernel
theorem dX8_pattern_143 : decode cX8_pattern 143 = .ok (.goto 4, 3) := by decide +kernel
theorem dX8_pattern_146 : decode cX8_pattern 146 = .ok (.iconst 0, 1) := by decide +kernel
theorem dX8_pattern_147 : decode cX8_pattern 147 = .ok (.ior, 1) := by decide +kernel
theorem dX8_pattern_148 : decode cX8_pattern 148 = .ok (.putfield 211, 3) := by decide +kernel
theorem dX8_pattern_151 : decode cX8_pattern 151 = .ok (.aload_n 0, 1) := by decide +kernel
theorem dX8_pattern_152 : decode cX8_pattern 152 = .ok (.iconst 0, 1) := by decide +kernel
theorem dX8_pattern_153 : decode cX8_pattern 153 = .ok (.putfield 208, 3) := by decide +kernel
theorem dX8_pattern_156 : decode cX8_pattern 156 = .ok (.aload_n 0, 1) := by decide +kernel
theorem dX8_pattern_157 : decode cX8_pattern 157 = .ok (.getfield 211, 3) := by decide +kernel
theorem dX8_pattern_160 : decode cX8_pattern 160 = .ok (.ifCond .eq 11, 3) := by decide +kernel
theorem dX8_pattern_163 : decode cX8_pattern 163 = .ok (.bipush (-100), 2) := by decide +kernel
theorem dX8_pattern_165 : decode cX8_pattern 165 = .ok (.aload_n 0, 1) := by decide +kernel
theorem dX8_pattern_166 : decode cX8_pattern 166 = .ok (.getfield 221, 3) := by decide +kernel
theorem dX8_pattern_169 : decode cX8_pattern 169 = .ok (.isub, 1) := by decide +kernel
theorem dX8_pattern_170 : decode cX8_pattern 170 = .ok (.ireturn, 1) := by decide +kernel
theorem dX8_pattern_171 : decode cX8_pattern 171 = .ok (.aload_n 0, 1) := by decide +kernel
theorem dX8_pattern_172 : decode cX8_pattern 172 = .ok (.dup, 1) := by decide +kernel
theorem dX8_pattern_173 : decode cX8_pattern 173 = .ok (.getfield 230, 3) := by decide +kernel
theorem dX8_pattern_176 : decode cX8_pattern 176 = .ok (.iconst 1, 1) := by decide +kernel
theorem dX8_pattern_177 : decode cX8_pattern 177 = .ok (.iadd, 1) := by decide +kernel
theorem dX8_pattern_178 : decode cX8_pattern 178 = .ok (.putfield 230, 3) := by decide +kernel
theorem dX8_pattern_181 : decode cX8_pattern 181 = .ok (.aload_n 0, 1) := by decide +kernel
theorem dX8_pattern_182 : decode cX8_pattern 182 = .ok (.getfield 230, 3) := by decide +kernel
theorem dX8_pattern_185 : decode cX8_pattern 185 = .ok (.iconst 1, 1) := by decide +kernel
theorem dX8_pattern_186 : decode cX8_pattern 186 = .ok (.isub, 1) := by decide +kernel
theorem dX8_pattern_187 : decode cX8_pattern 187 = .ok (.ireturn, 1) := by decide +kernel
theorem dX8_drop_0 : decode cX8_drop 0 = .ok (.aload_n 0, 1) := by decide +kernel
theorem dX8_drop_1 : decode cX8_drop 1 = .ok (.getfield 230, 3) := by decide +kernel
theorem dX8_drop_4 : decode cX8_drop 4 = .ok (.ifCond .ne 6, 3) := by decide +kernel
theorem dX8_drop_7 : decode cX8_drop 7 = .ok (.bipush (-3), 2) := by decide +kernel
theorem dX8_drop_9 : decode cX8_drop 9 = .ok (.ireturn, 1) := by decide +kernel
theorem dX8_drop_10 : decode cX8_drop 10 = .ok (.aload_n 0, 1) := by decide +kernel
theorem dX8_drop_11 : decode cX8_drop 11 = .ok (.dup, 1) := by decide +kernel
theorem dX8_drop_12 : decode cX8_drop 12 = .ok (.getfield 230, 3) := by decide +kernel
theorem dX8_drop_15 : decode cX8_drop 15 = .ok (.iconst 1, 1) := by decide +kernel
theorem dX8_drop_16 : decode cX8_drop 16 = .ok (.isub, 1) := by decide +kernel
theorem dX8_drop_17 : decode cX8_drop 17 = .ok (.putfield 230, 3) := by decide +kernel
theorem dX8_drop_20 : decode cX8_drop 20 = .ok (.aload_n 0, 1) := by decide +kernel
theorem dX8_drop_21 : decode cX8_drop 21 = .ok (.getfield 230, 3) := by decide +kernel
theorem dX8_drop_24 : decode cX8_drop 24 = .ok (.ireturn, 1) := by decide +kernel
theorem dX8_tellPath_0 : decode cX8_tellPath 0 = .ok (.aload_n 0, 1) := by decide +kernel
theorem dX8_tellPath_1 : decode cX8_tellPath 1 = .ok (.aload_n 0, 1) := by decide +kernel
theorem dX8_tellPath_2 : decode cX8_tellPath 2 = .ok (.iload_n 1, 1) := by decide +kernel
theorem dX8_tellPath_3 : decode cX8_tellPath 3 = .ok (.iload_n 2, 1) := by decide +kernel
theorem dX8_tellPath_4 : decode cX8_tellPath 4 = .ok (.invokevirtual 193, 3) := by decide +kernel
theorem dX8_tellPath_7 : decode cX8_tellPath 7 = .ok (.iconst 1, 1) := by decide +kernel
theorem dX8_tellPath_8 : decode cX8_tellPath 8 = .ok (.iadd, 1) := by decide +kernel
theorem dX8_tellPath_9 : decode cX8_tellPath 9 = .ok (.putfield 239, 3) := by decide +kernel
theorem dX8_tellPath_12 : decode cX8_tellPath 12 = .ok (.aload_n 0, 1) := by decide +kernel
theorem dX8_tellPath_13 : decode cX8_tellPath 13 = .ok (.getfield 239, 3) := by decide +kernel
theorem dX8_tellPath_16 : decode cX8_tellPath 16 = .ok (.istore_n 3, 1) := by decide +kernel
theorem dX8_tellPath_17 : decode cX8_tellPath 17 = .ok (.iload_n 2, 1) := by decide +kernel
theorem dX8_tellPath_18 : decode cX8_tellPath 18 = .ok (.istore 4, 2) := by decide +kernel
theorem dX8_tellPath_20 : decode cX8_tellPath 20 = .ok (.iload 4, 2) := by decide +kernel
theorem dX8_tellPath_22 : decode cX8_tellPath 22 = .ok (.iconst (-1), 1) := by decide +kernel
theorem dX8_tellPath_23 : decode cX8_tellPath 23 = .ok (.if_icmp .eq 35, 3) := by decide +kernel
theorem dX8_tellPath_26 : decode cX8_tellPath 26 = .ok (.iinc 3 (-1), 3) := by decide +kernel
theorem dX8_tellPath_29 : decode cX8_tellPath 29 = .ok (.aload_n 0, 1) := by decide +kernel
theorem dX8_tellPath_30 : decode cX8_tellPath 30 = .ok (.getfield 49, 3) := by decide +kernel
theorem dX8_tellPath_33 : decode cX8_tellPath 33 = .ok (.iload_n 3, 1) := by decide +kernel
theorem dX8_tellPath_34 : decode cX8_tellPath 34 = .ok (.aload_n 0, 1) := by decide +kernel
theorem dX8_tellPath_35 : decode cX8_tellPath 35 = .ok (.getfield 23, 3) := by decide +kernel
theorem dX8_tellPath_38 : decode cX8_tellPath 38 = .ok (.iload_n 1, 1) := by decide +kernel
theorem dX8_tellPath_39 : decode cX8_tellPath 39 = .ok (.aaload, 1) := by decide +kernel
theorem dX8_tellPath_40 : decode cX8_tellPath 40 = .ok (.iload 4, 2) := by decide +kernel
theorem dX8_tellPath_42 : decode cX8_tellPath 42 = .ok (.iaload, 1) := by decide +kernel
theorem dX8_tellPath_43 : decode cX8_tellPath 43 = .ok (.iastore, 1) := by decide +kernel
theorem dX8_tellPath_44 : decode cX8_tellPath 44 = .ok (.aload_n 0, 1) := by decide +kernel
theorem dX8_tellPath_45 : decode cX8_tellPath 45 = .ok (.getfield 20, 3) := by decide +kernel
theorem dX8_tellPath_48 : decode cX8_tellPath 48 = .ok (.iload_n 1, 1) := by decide +kernel
theorem dX8_tellPath_49 : decode cX8_tellPath 49 = .ok (.aaload, 1) := by decide +kernel
theorem dX8_tellPath_50 : decode cX8_tellPath 50 = .ok (.iload 4, 2) := by decide +kernel
theorem dX8_tellPath_52 : decode cX8_tellPath 52 = .ok (.iaload, 1) := by decide +kernel
theorem dX8_tellPath_53 : decode cX8_tellPath 53 = .ok (.istore 4, 2) := by decide +kernel
theorem dX8_tellPath_55 : decode cX8_tellPath 55 = .ok (.goto (-35), 3) := by decide +kernel
theorem dX8_tellPath_58 : decode cX8_tellPath 58 = .ok (.return_, 1) := by decide +kernel
theorem dX8_doesMatch_0 : decode cX8_doesMatch 0 = .ok (.iconst 0, 1) := by decide +kernel
theorem dX8_doesMatch_1 : decode cX8_doesMatch 1 = .ok (.istore_n 2, 1) := by decide +kernel
theorem dX8_doesMatch_2 : decode cX8_doesMatch 2 = .ok (.iload_n 2, 1) := by decide +kernel
theorem dX8_doesMatch_3 : decode cX8_doesMatch 3 = .ok (.aload_n 0, 1) := by decide +kernel
theorem dX8_doesMatch_4 : decode cX8_doesMatch 4 = .ok (.getfield 239, 3) := by decide +kernel
theorem dX8_doesMatch_7 : decode cX8_doesMatch 7 = .ok (.if_icmp .gt 24, 3) := by decide +kernel
theorem dX8_doesMatch_10 : decode cX8_doesMatch 10 = .ok (.aload_n 0, 1) := by decide +kernel
theorem dX8_doesMatch_11 : decode cX8_doesMatch 11 = .ok (.getfield 52, 3) := by decide +kernel
theorem dX8_doesMatch_14 : decode cX8_doesMatch 14 = .ok (.iload_n 2, 1) := by decide +kernel
theorem dX8_doesMatch_15 : decode cX8_doesMatch 15 = .ok (.iload_n 2, 1) := by decide +kernel
theorem dX8_doesMatch_16 : decode cX8_doesMatch 16 = .ok (.ifCond .ne 7, 3) := by decide +kernel
theorem dX8_doesMatch_19 : decode cX8_doesMatch 19 = .ok (.iconst 1, 1) := by decide +kernel
theorem dX8_doesMatch_20 : decode cX8_doesMatch 20 = .ok (.goto 4, 3) := by decide +kernel
theorem dX8_doesMatch_23 : decode cX8_doesMatch 23 = .ok (.iconst 0, 1) := by decide +kernel
theorem dX8_doesMatch_24 : decode cX8_doesMatch 24 = .ok (.bastore, 1) := by decide +kernel
theorem dX8_doesMatch_25 : decode cX8_doesMatch 25 = .ok (.iinc 2 1, 3) := by decide +kernel
theorem dX8_doesMatch_28 : decode cX8_doesMatch 28 = .ok (.goto (-26), 3) := by decide +kernel
theorem dX8_doesMatch_31 : decode cX8_doesMatch 31 = .ok (.iconst 0, 1) := by decide +kernel
theorem dX8_doesMatch_32 : decode cX8_doesMatch 32 = .ok (.istore_n 2, 1) := by decide +kernel
theorem dX8_doesMatch_33 : decode cX8_doesMatch 33 = .ok (.iload_n 2, 1) := by decide +kernel
theorem dX8_doesMatch_34 : decode cX8_doesMatch 34 = .ok (.aload_n 0, 1) := by decide +kernel
theorem dX8_doesMatch_35 : decode cX8_doesMatch 35 = .ok (.getfield 39, 3) := by decide +kernel
theorem dX8_doesMatch_38 : decode cX8_doesMatch 38 = .ok (.iload_n 1, 1) := by decide +kernel
theorem dX8_doesMatch_39 : decode cX8_doesMatch 39 = .ok (.iaload, 1) := by decide +kernel
theorem dX8_doesMatch_40 : decode cX8_doesMatch 40 = .ok (.if_icmp .ge 128, 3) := by decide +kernel
theorem dX8_doesMatch_43 : decode cX8_doesMatch 43 = .ok (.aload_n 0, 1) := by decide +kernel
theorem dX8_doesMatch_44 : decode cX8_doesMatch 44 = .ok (.getfield 43, 3) := by decide +kernel
theorem dX8_doesMatch_47 : decode cX8_doesMatch 47 = .ok (.iload_n 1, 1) := by decide +kernel
theorem dX8_doesMatch_48 : decode cX8_doesMatch 48 = .ok (.aaload, 1) := by decide +kernel
theorem dX8_doesMatch_49 : decode cX8_doesMatch 49 = .ok (.iload_n 2, 1) := by decide +kernel
theorem dX8_doesMatch_50 : decode cX8_doesMatch 50 = .ok (.iaload, 1) := by decide +kernel
theorem dX8_doesMatch_51 : decode cX8_doesMatch 51 = .ok (.istore_n 3, 1) := by decide +kernel
theorem dX8_doesMatch_52 : decode cX8_doesMatch 52 = .ok (.iload_n 3, 1) := by decide +kernel
theorem dX8_doesMatch_53 : decode cX8_doesMatch 53 = .ok (.bipush (-2), 2) := by decide +kernel
theorem dX8_doesMatch_55 : decode cX8_doesMatch 55 = .ok (.if_icmp .ne 43, 3) := by decide +kernel
theorem dX8_doesMatch_58 : decode cX8_doesMatch 58 = .ok (.iconst 1, 1) := by decide +kernel
theorem dX8_doesMatch_59 : decode cX8_doesMatch 59 = .ok (.istore 4, 2) := by decide +kernel
theorem dX8_doesMatch_61 : decode cX8_doesMatch 61 = .ok (.iload 4, 2) := by decide +kernel
theorem dX8_doesMatch_63 : decode cX8_doesMatch 63 = .ok (.aload_n 0, 1) := by decide +kernel
theorem dX8_doesMatch_64 : decode cX8_doesMatch 64 = .ok (.getfield 239, 3) := by decide +kernel
theorem dX8_doesMatch_67 : decode cX8_doesMatch 67 = .ok (.if_icmp .gt 28, 3) := by decide +kernel
theorem dX8_doesMatch_70 : decode cX8_doesMatch 70 = .ok (.aload_n 0, 1) := by decide +kernel
theorem dX8_doesMatch_71 : decode cX8_doesMatch 71 = .ok (.getfield 52, 3) := by decide +kernel
theorem dX8_doesMatch_74 : decode cX8_doesMatch 74 = .ok (.iload 4, 2) := by decide +kernel
theorem dX8_doesMatch_76 : decode cX8_doesMatch 76 = .ok (.dup2, 1) := by decide +kernel
theorem dX8_doesMatch_77 : decode cX8_doesMatch 77 = .ok (.baload, 1) := by decide +kernel
theorem dX8_doesMatch_78 : decode cX8_doesMatch 78 = .ok (.aload_n 0, 1) := by decide +kernel
theorem dX8_doesMatch_79 : decode cX8_doesMatch 79 = .ok (.getfield 52, 3) := by decide +kernel
theorem dX8_doesMatch_82 : decode cX8_doesMatch 82 = .ok (.iload 4, 2) := by decide +kernel
theorem dX8_doesMatch_84 : decode cX8_doesMatch 84 = .ok (.iconst 1, 1) := by decide +kernel
theorem dX8_doesMatch_85 : decode cX8_doesMatch 85 = .ok (.isub, 1) := by decide +kernel
theorem dX8_doesMatch_86 : decode cX8_doesMatch 86 = .ok (.baload, 1) := by decide +kernel
theorem dX8_doesMatch_87 : decode cX8_doesMatch 87 = .ok (.ior, 1) := by decide +kernel
theorem dX8_doesMatch_88 : decode cX8_doesMatch 88 = .ok (.bastore, 1) := by decide +kernel
theorem dX8_doesMatch_89 : decode cX8_doesMatch 89 = .ok (.iinc 4 1, 3) := by decide +kernel
theorem dX8_doesMatch_92 : decode cX8_doesMatch 92 = .ok (.goto (-31), 3) := by decide +kernel
theorem dX8_doesMatch_95 : decode cX8_doesMatch 95 = .ok (.goto 67, 3) := by decide +kernel
theorem dX8_doesMatch_98 : decode cX8_doesMatch 98 = .ok (.aload_n 0, 1) := by decide +kernel
theorem dX8_doesMatch_99 : decode cX8_doesMatch 99 = .ok (.getfield 239, 3) := by decide +kernel
theorem dX8_doesMatch_102 : decode cX8_doesMatch 102 = .ok (.istore 4, 2) := by decide +kernel
theorem dX8_doesMatch_104 : decode cX8_doesMatch 104 = .ok (.iload 4, 2) := by decide +kernel
theorem dX8_doesMatch_106 : decode cX8_doesMatch 106 = .ok (.ifCond .lt 56, 3) := by decide +kernel
theorem dX8_doesMatch_109 : decode cX8_doesMatch 109 = .ok (.aload_n 0, 1) := by decide +kernel
theorem dX8_doesMatch_110 : decode cX8_doesMatch 110 = .ok (.getfield 52, 3) := by decide +kernel
theorem dX8_doesMatch_113 : decode cX8_doesMatch 113 = .ok (.iload 4, 2) := by decide +kernel
theorem dX8_doesMatch_115 : decode cX8_doesMatch 115 = .ok (.iload 4, 2) := by decide +kernel
theorem dX8_doesMatch_117 : decode cX8_doesMatch 117 = .ok (.ifCond .le 37, 3) := by decide +kernel
theorem dX8_doesMatch_120 : decode cX8_doesMatch 120 = .ok (.aload_n 0, 1) := by decide +kernel
theorem dX8_doesMatch_121 : decode cX8_doesMatch 121 = .ok (.getfield 52, 3) := by decide +kernel
theorem dX8_doesMatch_124 : decode cX8_doesMatch 124 = .ok (.iload 4, 2) := by decide +kernel
theorem dX8_doesMatch_126 : decode cX8_doesMatch 126 = .ok (.iconst 1, 1) := by decide +kernel
theorem dX8_doesMatch_127 : decode cX8_doesMatch 127 = .ok (.isub, 1) := by decide +kernel
theorem dX8_doesMatch_128 : decode cX8_doesMatch 128 = .ok (.baload, 1) := by decide +kernel
theorem dX8_doesMatch_129 : decode cX8_doesMatch 129 = .ok (.ifCond .eq 25, 3) := by decide +kernel
theorem dX8_doesMatch_132 : decode cX8_doesMatch 132 = .ok (.iload_n 3, 1) := by decide +kernel
theorem dX8_doesMatch_133 : decode cX8_doesMatch 133 = .ok (.iconst (-1), 1) := by decide +kernel
theorem dX8_doesMatch_134 : decode cX8_doesMatch 134 = .ok (.if_icmp .eq 16, 3) := by decide +kernel
theorem dX8_doesMatch_137 : decode cX8_doesMatch 137 = .ok (.iload_n 3, 1) := by decide +kernel
theorem dX8_doesMatch_138 : decode cX8_doesMatch 138 = .ok (.aload_n 0, 1) := by decide +kernel
theorem dX8_doesMatch_139 : decode cX8_doesMatch 139 = .ok (.getfield 49, 3) := by decide +kernel
theorem dX8_doesMatch_142 : decode cX8_doesMatch 142 = .ok (.iload 4, 2) := by decide +kernel
theorem dX8_doesMatch_144 : decode cX8_doesMatch 144 = .ok (.iconst 1, 1) := by decide +kernel
theorem dX8_doesMatch_145 : decode cX8_doesMatch 145 = .ok (.isub, 1) := by decide +kernel
theorem dX8_doesMatch_146 : decode cX8_doesMatch 146 = .ok (.iaload, 1) := by decide +kernel
theorem dX8_doesMatch_147 : decode cX8_doesMatch 147 = .ok (.if_icmp .ne 7, 3) := by decide +kernel
theorem dX8_doesMatch_150 : decode cX8_doesMatch 150 = .ok (.iconst 1, 1) := by decide +kernel
theorem dX8_doesMatch_151 : decode cX8_doesMatch 151 = .ok (.goto 4, 3) := by decide +kernel
theorem dX8_doesMatch_154 : decode cX8_doesMatch 154 = .ok (.iconst 0, 1) := by decide +kernel
theorem dX8_doesMatch_155 : decode cX8_doesMatch 155 = .ok (.bastore, 1) := by decide +kernel
theorem dX8_doesMatch_156 : decode cX8_doesMatch 156 = .ok (.iinc 4 (-1), 3) := by decide +kernel
theorem dX8_doesMatch_159 : decode cX8_doesMatch 159 = .ok (.goto (-55), 3) := by decide +kernel
theorem dX8_doesMatch_162 : decode cX8_doesMatch 162 = .ok (.iinc 2 1, 3) := by decide +kernel
theorem dX8_doesMatch_165 : decode cX8_doesMatch 165 = .ok (.goto (-132), 3) := by decide +kernel
theorem dX8_doesMatch_168 : decode cX8_doesMatch 168 = .ok (.aload_n 0, 1) := by decide +kernel
theorem dX8_doesMatch_169 : decode cX8_doesMatch 169 = .ok (.getfield 52, 3) := by decide +kernel
theorem dX8_doesMatch_172 : decode cX8_doesMatch 172 = .ok (.aload_n 0, 1) := by decide +kernel
theorem dX8_doesMatch_173 : decode cX8_doesMatch 173 = .ok (.getfield 239, 3) := by decide +kernel
theorem dX8_doesMatch_176 : decode cX8_doesMatch 176 = .ok (.baload, 1) := by decide +kernel
theorem dX8_doesMatch_177 : decode cX8_doesMatch 177 = .ok (.ireturn, 1) := by decide +kernel
theorem dX8_matches_0 : decode cX8_matches 0 = .ok (.iload_n 1, 1) := by decide +kernel
theorem dX8_matches_1 : decode cX8_matches 1 = .ok (.iconst 0, 1) := by decide +kernel
theorem dX8_matches_2 : decode cX8_matches 2 = .ok (.aload_n 0, 1) := by decide +kernel
theorem dX8_matches_3 : decode cX8_matches 3 = .ok (.getfield 230, 3) := by decide +kernel
theorem dX8_matches_6 : decode cX8_matches 6 = .ok (.iconst 1, 1) := by decide +kernel
theorem dX8_matches_7 : decode cX8_matches 7 = .ok (.isub, 1) := by decide +kernel
theorem dX8_matches_8 : decode cX8_matches 8 = .ok (.invokestatic 133, 3) := by decide +kernel
theorem dX8_matches_11 : decode cX8_matches 11 = .ok (.ifCond .eq 18, 3) := by decide +kernel
theorem dX8_matches_14 : decode cX8_matches 14 = .ok (.iload_n 2, 1) := by decide +kernel
theorem dX8_matches_15 : decode cX8_matches 15 = .ok (.invokestatic 187, 3) := by decide +kernel
theorem dX8_matches_18 : decode cX8_matches 18 = .ok (.ifCond .eq 11, 3) := by decide +kernel
theorem dX8_matches_21 : decode cX8_matches 21 = .ok (.aload_n 0, 1) := by decide +kernel
theorem dX8_matches_22 : decode cX8_matches 22 = .ok (.iload_n 3, 1) := by decide +kernel
theorem dX8_matches_23 : decode cX8_matches 23 = .ok (.invokevirtual 137, 3) := by decide +kernel
theorem dX8_matches_26 : decode cX8_matches 26 = .ok (.ifCond .ne 6, 3) := by decide +kernel
theorem dX8_matches_29 : decode cX8_matches 29 = .ok (.bipush (-2), 2) := by decide +kernel
theorem dX8_matches_31 : decode cX8_matches 31 = .ok (.ireturn, 1) := by decide +kernel
theorem dX8_matches_32 : decode cX8_matches 32 = .ok (.aload_n 0, 1) := by decide +kernel
theorem dX8_matches_33 : decode cX8_matches 33 = .ok (.getfield 15, 3) := by decide +kernel
theorem dX8_matches_36 : decode cX8_matches 36 = .ok (.iload_n 2, 1) := by decide +kernel
theorem dX8_matches_37 : decode cX8_matches 37 = .ok (.aaload, 1) := by decide +kernel
theorem dX8_matches_38 : decode cX8_matches 38 = .ok (.iload_n 3, 1) := by decide +kernel
theorem dX8_matches_39 : decode cX8_matches 39 = .ok (.baload, 1) := by decide +kernel
theorem dX8_matches_40 : decode cX8_matches 40 = .ok (.ifCond .ne 6, 3) := by decide +kernel
theorem dX8_matches_43 : decode cX8_matches 43 = .ok (.bipush (-3), 2) := by decide +kernel
theorem dX8_matches_45 : decode cX8_matches 45 = .ok (.ireturn, 1) := by decide +kernel
theorem dX8_matches_46 : decode cX8_matches 46 = .ok (.aload_n 0, 1) := by decide +kernel
theorem dX8_matches_47 : decode cX8_matches 47 = .ok (.iload_n 2, 1) := by decide +kernel
theorem dX8_matches_48 : decode cX8_matches 48 = .ok (.iload_n 3, 1) := by decide +kernel
theorem dX8_matches_49 : decode cX8_matches 49 = .ok (.invokevirtual 242, 3) := by decide +kernel
theorem dX8_matches_52 : decode cX8_matches 52 = .ok (.aload_n 0, 1) := by decide +kernel
theorem dX8_matches_53 : decode cX8_matches 53 = .ok (.iload_n 1, 1) := by decide +kernel
theorem dX8_matches_54 : decode cX8_matches 54 = .ok (.invokevirtual 246, 3) := by decide +kernel
theorem dX8_matches_57 : decode cX8_matches 57 = .ok (.ifCond .eq 7, 3) := by decide +kernel
theorem dX8_matches_60 : decode cX8_matches 60 = .ok (.iconst 1, 1) := by decide +kernel
theorem dX8_matches_61 : decode cX8_matches 61 = .ok (.goto 4, 3) := by decide +kernel
theorem dX8_matches_64 : decode cX8_matches 64 = .ok (.iconst 0, 1) := by decide +kernel
theorem dX8_matches_65 : decode cX8_matches 65 = .ok (.ireturn, 1) := by decide +kernel
theorem dX8_isIgnoredOn_0 : decode cX8_isIgnoredOn 0 = .ok (.iload_n 2, 1) := by decide +kernel
theorem dX8_isIgnoredOn_1 : decode cX8_isIgnoredOn 1 = .ok (.istore_n 3, 1) := by decide +kernel
theorem dX8_isIgnoredOn_2 : decode cX8_isIgnoredOn 2 = .ok (.iload_n 3, 1) := by decide +kernel
theorem dX8_isIgnoredOn_3 : decode cX8_isIgnoredOn 3 = .ok (.iconst (-1), 1) := by decide +kernel
theorem dX8_isIgnoredOn_4 : decode cX8_isIgnoredOn 4 = .ok (.if_icmp .eq 65, 3) := by decide +kernel
theorem dX8_isIgnoredOn_7 : decode cX8_isIgnoredOn 7 = .ok (.aload_n 0, 1) := by decide +kernel
theorem dX8_isIgnoredOn_8 : decode cX8_isIgnoredOn 8 = .ok (.iload_n 1, 1) := by decide +kernel
theorem dX8_isIgnoredOn_9 : decode cX8_isIgnoredOn 9 = .ok (.iload_n 3, 1) := by decide +kernel
theorem dX8_isIgnoredOn_10 : decode cX8_isIgnoredOn 10 = .ok (.invokevirtual 242, 3) := by decide +kernel
theorem dX8_isIgnoredOn_13 : decode cX8_isIgnoredOn 13 = .ok (.aload_n 0, 1) := by decide +kernel
theorem dX8_isIgnoredOn_14 : decode cX8_isIgnoredOn 14 = .ok (.getfield 230, 3) := by decide +kernel
theorem dX8_isIgnoredOn_17 : decode cX8_isIgnoredOn 17 = .ok (.iconst 1, 1) := by decide +kernel
theorem dX8_isIgnoredOn_18 : decode cX8_isIgnoredOn 18 = .ok (.isub, 1) := by decide +kernel
theorem dX8_isIgnoredOn_19 : decode cX8_isIgnoredOn 19 = .ok (.istore 4, 2) := by decide +kernel
theorem dX8_isIgnoredOn_21 : decode cX8_isIgnoredOn 21 = .ok (.iload 4, 2) := by decide +kernel
theorem dX8_isIgnoredOn_23 : decode cX8_isIgnoredOn 23 = .ok (.ifCond .lt 34, 3) := by decide +kernel
theorem dX8_isIgnoredOn_26 : decode cX8_isIgnoredOn 26 = .ok (.aload_n 0, 1) := by decide +kernel
theorem dX8_isIgnoredOn_27 : decode cX8_isIgnoredOn 27 = .ok (.iload 4, 2) := by decide +kernel
theorem dX8_isIgnoredOn_29 : decode cX8_isIgnoredOn 29 = .ok (.invokevirtual 246, 3) := by decide +kernel
theorem dX8_isIgnoredOn_32 : decode cX8_isIgnoredOn 32 = .ok (.ifCond .eq 19, 3) := by decide +kernel
theorem dX8_isIgnoredOn_35 : decode cX8_isIgnoredOn 35 = .ok (.aload_n 0, 1) := by decide +kernel
theorem dX8_isIgnoredOn_36 : decode cX8_isIgnoredOn 36 = .ok (.getfield 36, 3) := by decide +kernel
theorem dX8_isIgnoredOn_39 : decode cX8_isIgnoredOn 39 = .ok (.iload 4, 2) := by decide +kernel
theorem dX8_isIgnoredOn_41 : decode cX8_isIgnoredOn 41 = .ok (.baload, 1) := by decide +kernel
theorem dX8_isIgnoredOn_42 : decode cX8_isIgnoredOn 42 = .ok (.ifCond .ne 7, 3) := by decide +kernel
theorem dX8_isIgnoredOn_45 : decode cX8_isIgnoredOn 45 = .ok (.iconst 1, 1) := by decide +kernel
theorem dX8_isIgnoredOn_46 : decode cX8_isIgnoredOn 46 = .ok (.goto 4, 3) := by decide +kernel
theorem dX8_isIgnoredOn_49 : decode cX8_isIgnoredOn 49 = .ok (.iconst 0, 1) := by decide +kernel
theorem dX8_isIgnoredOn_50 : decode cX8_isIgnoredOn 50 = .ok (.ireturn, 1) := by decide +kernel
theorem dX8_isIgnoredOn_51 : decode cX8_isIgnoredOn 51 = .ok (.iinc 4 (-1), 3) := by decide +kernel
theorem dX8_isIgnoredOn_54 : decode cX8_isIgnoredOn 54 = .ok (.goto (-33), 3) := by decide +kernel
theorem dX8_isIgnoredOn_57 : decode cX8_isIgnoredOn 57 = .ok (.aload_n 0, 1) := by decide +kernel
theorem dX8_isIgnoredOn_58 : decode cX8_isIgnoredOn 58 = .ok (.getfield 20, 3) := by decide +kernel
theorem dX8_isIgnoredOn_61 : decode cX8_isIgnoredOn 61 = .ok (.iload_n 1, 1) := by decide +kernel
theorem dX8_isIgnoredOn_62 : decode cX8_isIgnoredOn 62 = .ok (.aaload, 1) := by decide +kernel
theorem dX8_isIgnoredOn_63 : decode cX8_isIgnoredOn 63 = .ok (.iload_n 3, 1) := by decide +kernel
theorem dX8_isIgnoredOn_64 : decode cX8_isIgnoredOn 64 = .ok (.iaload, 1) := by decide +kernel
theorem dX8_isIgnoredOn_65 : decode cX8_isIgnoredOn 65 = .ok (.istore_n 3, 1) := by decide +kernel
theorem dX8_isIgnoredOn_66 : decode cX8_isIgnoredOn 66 = .ok (.goto (-64), 3) := by decide +kernel
theorem dX8_isIgnoredOn_69 : decode cX8_isIgnoredOn 69 = .ok (.iconst 0, 1) := by decide +kernel
theorem dX8_isIgnoredOn_70 : decode cX8_isIgnoredOn 70 = .ok (.ireturn, 1) := by decide +kernel
theorem dX8_ignore_0 : decode cX8_ignore 0 = .ok (.iconst 0, 1) := by decide +kernel
theorem dX8_ignore_1 : decode cX8_ignore 1 = .ok (.istore_n 1, 1) := by decide +kernel
theorem dX8_ignore_2 : decode cX8_ignore 2 = .ok (.iload_n 1, 1) := by decide +kernel
theorem dX8_ignore_3 : decode cX8_ignore 3 = .ok (.aload_n 0, 1) := by decide +kernel
theorem dX8_ignore_4 : decode cX8_ignore 4 = .ok (.getfield 130, 3) := by decide +kernel
theorem dX8_ignore_7 : decode cX8_ignore 7 = .ok (.if_icmp .ge 63, 3) := by decide +kernel
theorem dX8_ignore_10 : decode cX8_ignore 10 = .ok (.aload_n 0, 1) := by decide +kernel
theorem dX8_ignore_11 : decode cX8_ignore 11 = .ok (.getfield 55, 3) := by decide +kernel
theorem dX8_ignore_14 : decode cX8_ignore 14 = .ok (.iload_n 1, 1) := by decide +kernel
theorem dX8_ignore_15 : decode cX8_ignore 15 = .ok (.iconst 0, 1) := by decide +kernel
theorem dX8_ignore_16 : decode cX8_ignore 16 = .ok (.bastore, 1) := by decide +kernel
theorem dX8_ignore_17 : decode cX8_ignore 17 = .ok (.iconst 0, 1) := by decide +kernel
theorem dX8_ignore_18 : decode cX8_ignore 18 = .ok (.istore_n 2, 1) := by decide +kernel
theorem dX8_ignore_19 : decode cX8_ignore 19 = .ok (.iload_n 2, 1) := by decide +kernel
theorem dX8_ignore_20 : decode cX8_ignore 20 = .ok (.iconst 3, 1) := by decide +kernel
theorem dX8_ignore_21 : decode cX8_ignore 21 = .ok (.if_icmp .ge 43, 3) := by decide +kernel
theorem dX8_ignore_24 : decode cX8_ignore 24 = .ok (.aload_n 0, 1) := by decide +kernel
theorem dX8_ignore_25 : decode cX8_ignore 25 = .ok (.getfield 55, 3) := by decide +kernel
theorem dX8_ignore_28 : decode cX8_ignore 28 = .ok (.iload_n 1, 1) := by decide +kernel
theorem dX8_ignore_29 : decode cX8_ignore 29 = .ok (.dup2, 1) := by decide +kernel
theorem dX8_ignore_30 : decode cX8_ignore 30 = .ok (.baload, 1) := by decide +kernel
theorem dX8_ignore_31 : decode cX8_ignore 31 = .ok (.aload_n 0, 1) := by decide +kernel
theorem dX8_ignore_32 : decode cX8_ignore 32 = .ok (.getfield 15, 3) := by decide +kernel
theorem dX8_ignore_35 : decode cX8_ignore 35 = .ok (.iload_n 2, 1) := by decide +kernel
theorem dX8_ignore_36 : decode cX8_ignore 36 = .ok (.aaload, 1) := by decide +kernel
theorem dX8_ignore_37 : decode cX8_ignore 37 = .ok (.iload_n 1, 1) := by decide +kernel
theorem dX8_ignore_38 : decode cX8_ignore 38 = .ok (.baload, 1) := by decide +kernel
theorem dX8_ignore_39 : decode cX8_ignore 39 = .ok (.ifCond .eq 16, 3) := by decide +kernel
theorem dX8_ignore_42 : decode cX8_ignore 42 = .ok (.aload_n 0, 1) := by decide +kernel
theorem dX8_ignore_43 : decode cX8_ignore 43 = .ok (.iload_n 2, 1) := by decide +kernel
theorem dX8_ignore_44 : decode cX8_ignore 44 = .ok (.iload_n 1, 1) := by decide +kernel
theorem dX8_ignore_45 : decode cX8_ignore 45 = .ok (.invokevirtual 202, 3) := by decide +kernel
theorem dX8_ignore_48 : decode cX8_ignore 48 = .ok (.ifCond .eq 7, 3) := by decide +kernel
theorem dX8_ignore_51 : decode cX8_ignore 51 = .ok (.iconst 1, 1) := by decide +kernel
theorem dX8_ignore_52 : decode cX8_ignore 52 = .ok (.goto 4, 3) := by decide +kernel
theorem dX8_ignore_55 : decode cX8_ignore 55 = .ok (.iconst 0, 1) := by decide +kernel
theorem dX8_ignore_56 : decode cX8_ignore 56 = .ok (.ior, 1) := by decide +kernel
theorem dX8_ignore_57 : decode cX8_ignore 57 = .ok (.bastore, 1) := by decide +kernel
theorem dX8_ignore_58 : decode cX8_ignore 58 = .ok (.iinc 2 1, 3) := by decide +kernel
theorem dX8_ignore_61 : decode cX8_ignore 61 = .ok (.goto (-42), 3) := by decide +kernel
theorem dX8_ignore_64 : decode cX8_ignore 64 = .ok (.iinc 1 1, 3) := by decide +kernel
theorem dX8_ignore_67 : decode cX8_ignore 67 = .ok (.goto (-65), 3) := by decide +kernel
theorem dX8_ignore_70 : decode cX8_ignore 70 = .ok (.iconst 1, 1) := by decide +kernel
theorem dX8_ignore_71 : decode cX8_ignore 71 = .ok (.istore_n 1, 1) := by decide +kernel
theorem dX8_ignore_72 : decode cX8_ignore 72 = .ok (.iload_n 1, 1) := by decide +kernel
theorem dX8_ignore_73 : decode cX8_ignore 73 = .ok (.ifCond .eq 97, 3) := by decide +kernel
theorem dX8_ignore_76 : decode cX8_ignore 76 = .ok (.iconst 0, 1) := by decide +kernel
theorem dX8_ignore_77 : decode cX8_ignore 77 = .ok (.istore_n 1, 1) := by decide +kernel
theorem dX8_ignore_78 : decode cX8_ignore 78 = .ok (.iconst 0, 1) := by decide +kernel
theorem dX8_ignore_79 : decode cX8_ignore 79 = .ok (.istore_n 2, 1) := by decide +kernel
theorem dX8_ignore_80 : decode cX8_ignore 80 = .ok (.iload_n 2, 1) := by decide +kernel
theorem dX8_ignore_81 : decode cX8_ignore 81 = .ok (.aload_n 0, 1) := by decide +kernel
theorem dX8_ignore_82 : decode cX8_ignore 82 = .ok (.getfield 130, 3) := by decide +kernel
theorem dX8_ignore_85 : decode cX8_ignore 85 = .ok (.if_icmp .ge 82, 3) := by decide +kernel
theorem dX8_ignore_88 : decode cX8_ignore 88 = .ok (.iconst 0, 1) := by decide +kernel
theorem dX8_ignore_89 : decode cX8_ignore 89 = .ok (.istore_n 3, 1) := by decide +kernel
theorem dX8_ignore_90 : decode cX8_ignore 90 = .ok (.iload_n 3, 1) := by decide +kernel
theorem dX8_ignore_91 : decode cX8_ignore 91 = .ok (.iconst 3, 1) := by decide +kernel
theorem dX8_ignore_92 : decode cX8_ignore 92 = .ok (.if_icmp .ge 69, 3) := by decide +kernel
theorem dX8_ignore_95 : decode cX8_ignore 95 = .ok (.aload_n 0, 1) := by decide +kernel
theorem dX8_ignore_96 : decode cX8_ignore 96 = .ok (.getfield 55, 3) := by decide +kernel
theorem dX8_ignore_99 : decode cX8_ignore 99 = .ok (.iload_n 2, 1) := by decide +kernel
theorem dX8_ignore_100 : decode cX8_ignore 100 = .ok (.baload, 1) := by decide +kernel
theorem dX8_ignore_101 : decode cX8_ignore 101 = .ok (.ifCond .ne 54, 3) := by decide +kernel
theorem dX8_ignore_104 : decode cX8_ignore 104 = .ok (.aload_n 0, 1) := by decide +kernel
theorem dX8_ignore_105 : decode cX8_ignore 105 = .ok (.getfield 15, 3) := by decide +kernel
theorem dX8_ignore_108 : decode cX8_ignore 108 = .ok (.iload_n 3, 1) := by decide +kernel
theorem dX8_ignore_109 : decode cX8_ignore 109 = .ok (.aaload, 1) := by decide +kernel
theorem dX8_ignore_110 : decode cX8_ignore 110 = .ok (.iload_n 2, 1) := by decide +kernel
theorem dX8_ignore_111 : decode cX8_ignore 111 = .ok (.baload, 1) := by decide +kernel
theorem dX8_ignore_112 : decode cX8_ignore 112 = .ok (.ifCond .eq 43, 3) := by decide +kernel
theorem dX8_ignore_115 : decode cX8_ignore 115 = .ok (.aload_n 0, 1) := by decide +kernel
theorem dX8_ignore_116 : decode cX8_ignore 116 = .ok (.getfield 20, 3) := by decide +kernel
theorem dX8_ignore_119 : decode cX8_ignore 119 = .ok (.iload_n 3, 1) := by decide +kernel
theorem dX8_ignore_120 : decode cX8_ignore 120 = .ok (.aaload, 1) := by decide +kernel
theorem dX8_ignore_121 : decode cX8_ignore 121 = .ok (.iload_n 2, 1) := by decide +kernel
theorem dX8_ignore_122 : decode cX8_ignore 122 = .ok (.iaload, 1) := by decide +kernel
theorem dX8_ignore_123 : decode cX8_ignore 123 = .ok (.iconst (-1), 1) := by decide +kernel
theorem dX8_ignore_124 : decode cX8_ignore 124 = .ok (.if_icmp .eq 31, 3) := by decide +kernel
theorem dX8_ignore_127 : decode cX8_ignore 127 = .ok (.aload_n 0, 1) := by decide +kernel
theorem dX8_ignore_128 : decode cX8_ignore 128 = .ok (.getfield 55, 3) := by decide +kernel
theorem dX8_ignore_131 : decode cX8_ignore 131 = .ok (.aload_n 0, 1) := by decide +kernel
theorem dX8_ignore_132 : decode cX8_ignore 132 = .ok (.getfield 20, 3) := by decide +kernel
theorem dX8_ignore_135 : decode cX8_ignore 135 = .ok (.iload_n 3, 1) := by decide +kernel
theorem dX8_ignore_136 : decode cX8_ignore 136 = .ok (.aaload, 1) := by decide +kernel
theorem dX8_ignore_137 : decode cX8_ignore 137 = .ok (.iload_n 2, 1) := by decide +kernel
theorem dX8_ignore_138 : decode cX8_ignore 138 = .ok (.iaload, 1) := by decide +kernel
theorem dX8_ignore_139 : decode cX8_ignore 139 = .ok (.baload, 1) := by decide +kernel
theorem dX8_ignore_140 : decode cX8_ignore 140 = .ok (.ifCond .ne 6, 3) := by decide +kernel
theorem dX8_ignore_143 : decode cX8_ignore 143 = .ok (.goto 12, 3) := by decide +kernel
theorem dX8_ignore_146 : decode cX8_ignore 146 = .ok (.aload_n 0, 1) := by decide +kernel
theorem dX8_ignore_147 : decode cX8_ignore 147 = .ok (.getfield 55, 3) := by decide +kernel
theorem dX8_ignore_150 : decode cX8_ignore 150 = .ok (.iload_n 2, 1) := by decide +kernel
theorem dX8_ignore_151 : decode cX8_ignore 151 = .ok (.iconst 1, 1) := by decide +kernel
theorem dX8_ignore_152 : decode cX8_ignore 152 = .ok (.bastore, 1) := by decide +kernel
theorem dX8_ignore_153 : decode cX8_ignore 153 = .ok (.iconst 1, 1) := by decide +kernel
theorem dX8_ignore_154 : decode cX8_ignore 154 = .ok (.istore_n 1, 1) := by decide +kernel
theorem dX8_ignore_155 : decode cX8_ignore 155 = .ok (.iinc 3 1, 3) := by decide +kernel
theorem dX8_ignore_158 : decode cX8_ignore 158 = .ok (.goto (-68), 3) := by decide +kernel
theorem dX8_ignore_161 : decode cX8_ignore 161 = .ok (.iinc 2 1, 3) := by decide +kernel
theorem dX8_ignore_164 : decode cX8_ignore 164 = .ok (.goto (-84), 3) := by decide +kernel
theorem dX8_ignore_167 : decode cX8_ignore 167 = .ok (.goto (-95), 3) := by decide +kernel
theorem dX8_ignore_170 : decode cX8_ignore 170 = .ok (.return_, 1) := by decide +kernel
theorem dX8_changed_0 : decode cX8_changed 0 = .ok (.aload_n 0, 1) := by decide +kernel
theorem dX8_changed_1 : decode cX8_changed 1 = .ok (.getfield 55, 3) := by decide +kernel
theorem dX8_changed_4 : decode cX8_changed 4 = .ok (.iload_n 2, 1) := by decide +kernel
theorem dX8_changed_5 : decode cX8_changed 5 = .ok (.baload, 1) := by decide +kernel
theorem dX8_changed_6 : decode cX8_changed 6 = .ok (.ifCond .eq 5, 3) := by decide +kernel
theorem dX8_changed_9 : decode cX8_changed 9 = .ok (.iconst 0, 1) := by decide +kernel
theorem dX8_changed_10 : decode cX8_changed 10 = .ok (.ireturn, 1) := by decide +kernel
theorem dX8_changed_11 : decode cX8_changed 11 = .ok (.aload_n 0, 1) := by decide +kernel
theorem dX8_changed_12 : decode cX8_changed 12 = .ok (.getfield 15, 3) := by decide +kernel
theorem dX8_changed_15 : decode cX8_changed 15 = .ok (.iconst 2, 1) := by decide +kernel
theorem dX8_changed_16 : decode cX8_changed 16 = .ok (.aaload, 1) := by decide +kernel
theorem dX8_changed_17 : decode cX8_changed 17 = .ok (.iload_n 2, 1) := by decide +kernel
theorem dX8_changed_18 : decode cX8_changed 18 = .ok (.baload, 1) := by decide +kernel
theorem dX8_changed_19 : decode cX8_changed 19 = .ok (.ifCond .ne 20, 3) := by decide +kernel
theorem dX8_changed_22 : decode cX8_changed 22 = .ok (.aload_n 0, 1) := by decide +kernel
theorem dX8_changed_23 : decode cX8_changed 23 = .ok (.getfield 15, 3) := by decide +kernel
theorem dX8_changed_26 : decode cX8_changed 26 = .ok (.iload_n 1, 1) := by decide +kernel
theorem dX8_changed_27 : decode cX8_changed 27 = .ok (.aaload, 1) := by decide +kernel
theorem dX8_changed_28 : decode cX8_changed 28 = .ok (.iload_n 2, 1) := by decide +kernel
theorem dX8_changed_29 : decode cX8_changed 29 = .ok (.baload, 1) := by decide +kernel
theorem dX8_changed_30 : decode cX8_changed 30 = .ok (.ifCond .eq 7, 3) := by decide +kernel
theorem dX8_changed_33 : decode cX8_changed 33 = .ok (.iconst 1, 1) := by decide +kernel
theorem dX8_changed_34 : decode cX8_changed 34 = .ok (.goto 4, 3) := by decide +kernel
theorem dX8_changed_37 : decode cX8_changed 37 = .ok (.iconst 0, 1) := by decide +kernel
theorem dX8_changed_38 : decode cX8_changed 38 = .ok (.ireturn, 1) := by decide +kernel
theorem dX8_changed_39 : decode cX8_changed 39 = .ok (.aload_n 0, 1) := by decide +kernel
theorem dX8_changed_40 : decode cX8_changed 40 = .ok (.getfield 15, 3) := by decide +kernel
theorem dX8_changed_43 : decode cX8_changed 43 = .ok (.iload_n 1, 1) := by decide +kernel
theorem dX8_changed_44 : decode cX8_changed 44 = .ok (.aaload, 1) := by decide +kernel
theorem dX8_changed_45 : decode cX8_changed 45 = .ok (.iload_n 2, 1) := by decide +kernel
theorem dX8_changed_46 : decode cX8_changed 46 = .ok (.baload, 1) := by decide +kernel
theorem dX8_changed_47 : decode cX8_changed 47 = .ok (.ifCond .ne 5, 3) := by decide +kernel
theorem dX8_changed_50 : decode cX8_changed 50 = .ok (.iconst 2, 1) := by decide +kernel
theorem dX8_changed_51 : decode cX8_changed 51 = .ok (.ireturn, 1) := by decide +kernel
theorem dX8_changed_52 : decode cX8_changed 52 = .ok (.aload_n 0, 1) := by decide +kernel
theorem dX8_changed_53 : decode cX8_changed 53 = .ok (.getfield 20, 3) := by decide +kernel
theorem dX8_changed_56 : decode cX8_changed 56 = .ok (.iload_n 1, 1) := by decide +kernel
theorem dX8_changed_57 : decode cX8_changed 57 = .ok (.aaload, 1) := by decide +kernel
theorem dX8_changed_58 : decode cX8_changed 58 = .ok (.iload_n 2, 1) := by decide +kernel
theorem dX8_changed_59 : decode cX8_changed 59 = .ok (.iaload, 1) := by decide +kernel
theorem dX8_changed_60 : decode cX8_changed 60 = .ok (.aload_n 0, 1) := by decide +kernel
theorem dX8_changed_61 : decode cX8_changed 61 = .ok (.getfield 20, 3) := by decide +kernel
theorem dX8_changed_64 : decode cX8_changed 64 = .ok (.iconst 2, 1) := by decide +kernel
theorem dX8_changed_65 : decode cX8_changed 65 = .ok (.aaload, 1) := by decide +kernel
theorem dX8_changed_66 : decode cX8_changed 66 = .ok (.iload_n 2, 1) := by decide +kernel
theorem dX8_changed_67 : decode cX8_changed 67 = .ok (.iaload, 1) := by decide +kernel
theorem dX8_changed_68 : decode cX8_changed 68 = .ok (.if_icmp .ne 22, 3) := by decide +kernel
theorem dX8_changed_71 : decode cX8_changed 71 = .ok (.aload_n 0, 1) := by decide +kernel
theorem dX8_changed_72 : decode cX8_changed 72 = .ok (.getfield 23, 3) := by decide +kernel
theorem dX8_changed_75 : decode cX8_changed 75 = .ok (.iload_n 1, 1) := by decide +kernel
theorem dX8_changed_76 : decode cX8_changed 76 = .ok (.aaload, 1) := by decide +kernel
theorem dX8_changed_77 : decode cX8_changed 77 = .ok (.iload_n 2, 1) := by decide +kernel
theorem dX8_changed_78 : decode cX8_changed 78 = .ok (.iaload, 1) := by decide +kernel
theorem dX8_changed_79 : decode cX8_changed 79 = .ok (.aload_n 0, 1) := by decide +kernel
theorem dX8_changed_80 : decode cX8_changed 80 = .ok (.getfield 23, 3) := by decide +kernel
theorem dX8_changed_83 : decode cX8_changed 83 = .ok (.iconst 2, 1) := by decide +kernel
theorem dX8_changed_84 : decode cX8_changed 84 = .ok (.aaload, 1) := by decide +kernel
theorem dX8_changed_85 : decode cX8_changed 85 = .ok (.iload_n 2, 1) := by decide +kernel
theorem dX8_changed_86 : decode cX8_changed 86 = .ok (.iaload, 1) := by decide +kernel
theorem dX8_changed_87 : decode cX8_changed 87 = .ok (.if_icmp .eq 7, 3) := by decide +kernel
theorem dX8_changed_90 : decode cX8_changed 90 = .ok (.iconst 4, 1) := by decide +kernel
theorem dX8_changed_91 : decode cX8_changed 91 = .ok (.goto 4, 3) := by decide +kernel
theorem dX8_changed_94 : decode cX8_changed 94 = .ok (.iconst 0, 1) := by decide +kernel
theorem dX8_changed_95 : decode cX8_changed 95 = .ok (.aload_n 0, 1) := by decide +kernel
theorem dX8_changed_96 : decode cX8_changed 96 = .ok (.getfield 26, 3) := by decide +kernel
theorem dX8_changed_99 : decode cX8_changed 99 = .ok (.iload_n 1, 1) := by decide +kernel
theorem dX8_changed_100 : decode cX8_changed 100 = .ok (.aaload, 1) := by decide +kernel
theorem dX8_changed_101 : decode cX8_changed 101 = .ok (.iload_n 2, 1) := by decide +kernel
theorem dX8_changed_102 : decode cX8_changed 102 = .ok (.iaload, 1) := by decide +kernel
theorem dX8_changed_103 : decode cX8_changed 103 = .ok (.aload_n 0, 1) := by decide +kernel
theorem dX8_changed_104 : decode cX8_changed 104 = .ok (.getfield 26, 3) := by decide +kernel
theorem dX8_changed_107 : decode cX8_changed 107 = .ok (.iconst 2, 1) := by decide +kernel
theorem dX8_changed_108 : decode cX8_changed 108 = .ok (.aaload, 1) := by decide +kernel
theorem dX8_changed_109 : decode cX8_changed 109 = .ok (.iload_n 2, 1) := by decide +kernel
theorem dX8_changed_110 : decode cX8_changed 110 = .ok (.iaload, 1) := by decide +kernel
theorem dX8_changed_111 : decode cX8_changed 111 = .ok (.if_icmp .eq 8, 3) := by decide +kernel
theorem dX8_changed_114 : decode cX8_changed 114 = .ok (.bipush 8, 2) := by decide +kernel
theorem dX8_changed_116 : decode cX8_changed 116 = .ok (.goto 4, 3) := by decide +kernel
theorem dX8_changed_119 : decode cX8_changed 119 = .ok (.iconst 0, 1) := by decide +kernel
theorem dX8_changed_120 : decode cX8_changed 120 = .ok (.ior, 1) := by decide +kernel
theorem dX8_changed_121 : decode cX8_changed 121 = .ok (.ireturn, 1) := by decide +kernel
theorem dX8_clashes_0 : decode cX8_clashes 0 = .ok (.aload_n 0, 1) := by decide +kernel
theorem dX8_clashes_1 : decode cX8_clashes 1 = .ok (.getfield 58, 3) := by decide +kernel
theorem dX8_clashes_4 : decode cX8_clashes 4 = .ok (.aload_n 0, 1) := by decide +kernel
theorem dX8_clashes_5 : decode cX8_clashes 5 = .ok (.getfield 249, 3) := by decide +kernel
theorem dX8_clashes_8 : decode cX8_clashes 8 = .ok (.iload_n 1, 1) := by decide +kernel
theorem dX8_clashes_9 : decode cX8_clashes 9 = .ok (.iastore, 1) := by decide +kernel
theorem dX8_clashes_10 : decode cX8_clashes 10 = .ok (.aload_n 0, 1) := by decide +kernel
theorem dX8_clashes_11 : decode cX8_clashes 11 = .ok (.getfield 61, 3) := by decide +kernel
theorem dX8_clashes_14 : decode cX8_clashes 14 = .ok (.aload_n 0, 1) := by decide +kernel
theorem dX8_clashes_15 : decode cX8_clashes 15 = .ok (.getfield 249, 3) := by decide +kernel
theorem dX8_clashes_18 : decode cX8_clashes 18 = .ok (.iload_n 2, 1) := by decide +kernel
theorem dX8_clashes_19 : decode cX8_clashes 19 = .ok (.iastore, 1) := by decide +kernel
theorem dX8_clashes_20 : decode cX8_clashes 20 = .ok (.aload_n 0, 1) := by decide +kernel
theorem dX8_clashes_21 : decode cX8_clashes 21 = .ok (.dup, 1) := by decide +kernel
theorem dX8_clashes_22 : decode cX8_clashes 22 = .ok (.getfield 249, 3) := by decide +kernel
theorem dX8_clashes_25 : decode cX8_clashes 25 = .ok (.iconst 1, 1) := by decide +kernel
theorem dX8_clashes_26 : decode cX8_clashes 26 = .ok (.iadd, 1) := by decide +kernel
theorem dX8_clashes_27 : decode cX8_clashes 27 = .ok (.putfield 249, 3) := by decide +kernel
theorem dX8_clashes_30 : decode cX8_clashes 30 = .ok (.return_, 1) := by decide +kernel
theorem dX8_isStirred_0 : decode cX8_isStirred 0 = .ok (.aload_n 0, 1) := by decide +kernel
theorem dX8_isStirred_1 : decode cX8_isStirred 1 = .ok (.iload_n 1, 1) := by decide +kernel
theorem dX8_isStirred_2 : decode cX8_isStirred 2 = .ok (.iload_n 2, 1) := by decide +kernel
theorem dX8_isStirred_3 : decode cX8_isStirred 3 = .ok (.invokevirtual 199, 3) := by decide +kernel
theorem dX8_isStirred_6 : decode cX8_isStirred 6 = .ok (.bipush 12, 2) := by decide +kernel
theorem dX8_isStirred_8 : decode cX8_isStirred 8 = .ok (.iand, 1) := by decide +kernel
theorem dX8_isStirred_9 : decode cX8_isStirred 9 = .ok (.ifCond .eq 5, 3) := by decide +kernel
theorem dX8_isStirred_12 : decode cX8_isStirred 12 = .ok (.iconst 1, 1) := by decide +kernel
theorem dX8_isStirred_13 : decode cX8_isStirred 13 = .ok (.ireturn, 1) := by decide +kernel
theorem dX8_isStirred_14 : decode cX8_isStirred 14 = .ok (.iconst 0, 1) := by decide +kernel
theorem dX8_isStirred_15 : decode cX8_isStirred 15 = .ok (.istore_n 3, 1) := by decide +kernel
theorem dX8_isStirred_16 : decode cX8_isStirred 16 = .ok (.iload_n 3, 1) := by decide +kernel
theorem dX8_isStirred_17 : decode cX8_isStirred 17 = .ok (.aload_n 0, 1) := by decide +kernel
theorem dX8_isStirred_18 : decode cX8_isStirred 18 = .ok (.getfield 130, 3) := by decide +kernel
theorem dX8_isStirred_21 : decode cX8_isStirred 21 = .ok (.if_icmp .ge 42, 3) := by decide +kernel
theorem dX8_isStirred_24 : decode cX8_isStirred 24 = .ok (.aload_n 0, 1) := by decide +kernel
theorem dX8_isStirred_25 : decode cX8_isStirred 25 = .ok (.iload_n 1, 1) := by decide +kernel
theorem dX8_isStirred_26 : decode cX8_isStirred 26 = .ok (.iload_n 3, 1) := by decide +kernel
theorem dX8_isStirred_27 : decode cX8_isStirred 27 = .ok (.iload_n 2, 1) := by decide +kernel
theorem dX8_isStirred_28 : decode cX8_isStirred 28 = .ok (.invokevirtual 181, 3) := by decide +kernel
theorem dX8_isStirred_31 : decode cX8_isStirred 31 = .ok (.ifCond .eq 26, 3) := by decide +kernel
theorem dX8_isStirred_34 : decode cX8_isStirred 34 = .ok (.aload_n 0, 1) := by decide +kernel
theorem dX8_isStirred_35 : decode cX8_isStirred 35 = .ok (.getfield 55, 3) := by decide +kernel
theorem dX8_isStirred_38 : decode cX8_isStirred 38 = .ok (.iload_n 3, 1) := by decide +kernel
theorem dX8_isStirred_39 : decode cX8_isStirred 39 = .ok (.baload, 1) := by decide +kernel
theorem dX8_isStirred_40 : decode cX8_isStirred 40 = .ok (.ifCond .ne 15, 3) := by decide +kernel
theorem dX8_isStirred_43 : decode cX8_isStirred 43 = .ok (.aload_n 0, 1) := by decide +kernel
theorem dX8_isStirred_44 : decode cX8_isStirred 44 = .ok (.iload_n 1, 1) := by decide +kernel
theorem dX8_isStirred_45 : decode cX8_isStirred 45 = .ok (.iload_n 3, 1) := by decide +kernel
theorem dX8_isStirred_46 : decode cX8_isStirred 46 = .ok (.invokevirtual 199, 3) := by decide +kernel
theorem dX8_isStirred_49 : decode cX8_isStirred 49 = .ok (.bipush 13, 2) := by decide +kernel
theorem dX8_isStirred_51 : decode cX8_isStirred 51 = .ok (.iand, 1) := by decide +kernel
theorem dX8_isStirred_52 : decode cX8_isStirred 52 = .ok (.ifCond .eq 5, 3) := by decide +kernel
theorem dX8_isStirred_55 : decode cX8_isStirred 55 = .ok (.iconst 1, 1) := by decide +kernel
theorem dX8_isStirred_56 : decode cX8_isStirred 56 = .ok (.ireturn, 1) := by decide +kernel
theorem dX8_isStirred_57 : decode cX8_isStirred 57 = .ok (.iinc 3 1, 3) := by decide +kernel
theorem dX8_isStirred_60 : decode cX8_isStirred 60 = .ok (.goto (-44), 3) := by decide +kernel
theorem dX8_isStirred_63 : decode cX8_isStirred 63 = .ok (.iconst 0, 1) := by decide +kernel
theorem dX8_isStirred_64 : decode cX8_isStirred 64 = .ok (.ireturn, 1) := by decide +kernel
theorem dX8_whoIs_0 : decode cX8_whoIs 0 = .ok (.aload_n 0, 1) := by decide +kernel
theorem dX8_whoIs_1 : decode cX8_whoIs 1 = .ok (.iconst 0, 1) := by decide +kernel
theorem dX8_whoIs_2 : decode cX8_whoIs 2 = .ok (.iload_n 1, 1) := by decide +kernel
theorem dX8_whoIs_3 : decode cX8_whoIs 3 = .ok (.invokevirtual 199, 3) := by decide +kernel
theorem dX8_whoIs_6 : decode cX8_whoIs 6 = .ok (.istore_n 2, 1) := by decide +kernel
theorem dX8_whoIs_7 : decode cX8_whoIs 7 = .ok (.aload_n 0, 1) := by decide +kernel
theorem dX8_whoIs_8 : decode cX8_whoIs 8 = .ok (.iconst 1, 1) := by decide +kernel
theorem dX8_whoIs_9 : decode cX8_whoIs 9 = .ok (.iload_n 1, 1) := by decide +kernel
theorem dX8_whoIs_10 : decode cX8_whoIs 10 = .ok (.invokevirtual 199, 3) := by decide +kernel
theorem dX8_whoIs_13 : decode cX8_whoIs 13 = .ok (.istore_n 3, 1) := by decide +kernel
theorem dX8_whoIs_14 : decode cX8_whoIs 14 = .ok (.aload_n 0, 1) := by decide +kernel
theorem dX8_whoIs_15 : decode cX8_whoIs 15 = .ok (.getfield 64, 3) := by decide +kernel
theorem dX8_whoIs_18 : decode cX8_whoIs 18 = .ok (.iload_n 1, 1) := by decide +kernel
theorem dX8_whoIs_19 : decode cX8_whoIs 19 = .ok (.iconst 0, 1) := by decide +kernel
theorem dX8_whoIs_20 : decode cX8_whoIs 20 = .ok (.bastore, 1) := by decide +kernel
theorem dX8_whoIs_21 : decode cX8_whoIs 21 = .ok (.aload_n 0, 1) := by decide +kernel
theorem dX8_whoIs_22 : decode cX8_whoIs 22 = .ok (.getfield 67, 3) := by decide +kernel
theorem dX8_whoIs_25 : decode cX8_whoIs 25 = .ok (.iload_n 1, 1) := by decide +kernel
theorem dX8_whoIs_26 : decode cX8_whoIs 26 = .ok (.aload_n 0, 1) := by decide +kernel
theorem dX8_whoIs_27 : decode cX8_whoIs 27 = .ok (.getfield 9, 3) := by decide +kernel
theorem dX8_whoIs_30 : decode cX8_whoIs 30 = .ok (.iload_n 1, 1) := by decide +kernel
theorem dX8_whoIs_31 : decode cX8_whoIs 31 = .ok (.baload, 1) := by decide +kernel
theorem dX8_whoIs_32 : decode cX8_whoIs 32 = .ok (.bastore, 1) := by decide +kernel
theorem dX8_whoIs_33 : decode cX8_whoIs 33 = .ok (.aload_n 0, 1) := by decide +kernel
theorem dX8_whoIs_34 : decode cX8_whoIs 34 = .ok (.getfield 55, 3) := by decide +kernel
theorem dX8_whoIs_37 : decode cX8_whoIs 37 = .ok (.iload_n 1, 1) := by decide +kernel
theorem dX8_whoIs_38 : decode cX8_whoIs 38 = .ok (.baload, 1) := by decide +kernel
theorem dX8_whoIs_39 : decode cX8_whoIs 39 = .ok (.ifCond .eq 4, 3) := by decide +kernel
theorem dX8_whoIs_42 : decode cX8_whoIs 42 = .ok (.return_, 1) := by decide +kernel
theorem dX8_whoIs_43 : decode cX8_whoIs 43 = .ok (.iload_n 2, 1) := by decide +kernel
theorem dX8_whoIs_44 : decode cX8_whoIs 44 = .ok (.iconst 1, 1) := by decide +kernel
theorem dX8_whoIs_45 : decode cX8_whoIs 45 = .ok (.if_icmp .eq 8, 3) := by decide +kernel
theorem dX8_whoIs_48 : decode cX8_whoIs 48 = .ok (.iload_n 3, 1) := by decide +kernel
theorem dX8_whoIs_49 : decode cX8_whoIs 49 = .ok (.iconst 1, 1) := by decide +kernel
theorem dX8_whoIs_50 : decode cX8_whoIs 50 = .ok (.if_icmp .ne 13, 3) := by decide +kernel
theorem dX8_whoIs_53 : decode cX8_whoIs 53 = .ok (.aload_n 0, 1) := by decide +kernel
theorem dX8_whoIs_54 : decode cX8_whoIs 54 = .ok (.getfield 64, 3) := by decide +kernel
theorem dX8_whoIs_57 : decode cX8_whoIs 57 = .ok (.iload_n 1, 1) := by decide +kernel
theorem dX8_whoIs_58 : decode cX8_whoIs 58 = .ok (.iconst 1, 1) := by decide +kernel
theorem dX8_whoIs_59 : decode cX8_whoIs 59 = .ok (.bastore, 1) := by decide +kernel
theorem dX8_whoIs_60 : decode cX8_whoIs 60 = .ok (.goto 99, 3) := by decide +kernel
theorem dX8_whoIs_63 : decode cX8_whoIs 63 = .ok (.aload_n 0, 1) := by decide +kernel
theorem dX8_whoIs_64 : decode cX8_whoIs 64 = .ok (.getfield 15, 3) := by decide +kernel
theorem dX8_whoIs_67 : decode cX8_whoIs 67 = .ok (.iconst 2, 1) := by decide +kernel
theorem dX8_whoIs_68 : decode cX8_whoIs 68 = .ok (.aaload, 1) := by decide +kernel
theorem dX8_whoIs_69 : decode cX8_whoIs 69 = .ok (.iload_n 1, 1) := by decide +kernel
theorem dX8_whoIs_70 : decode cX8_whoIs 70 = .ok (.baload, 1) := by decide +kernel
theorem dX8_whoIs_71 : decode cX8_whoIs 71 = .ok (.ifCond .eq 23, 3) := by decide +kernel
theorem dX8_whoIs_74 : decode cX8_whoIs 74 = .ok (.iload_n 2, 1) := by decide +kernel
theorem dX8_whoIs_75 : decode cX8_whoIs 75 = .ok (.iconst 2, 1) := by decide +kernel
theorem dX8_whoIs_76 : decode cX8_whoIs 76 = .ok (.if_icmp .eq 18, 3) := by decide +kernel
theorem dX8_whoIs_79 : decode cX8_whoIs 79 = .ok (.iload_n 3, 1) := by decide +kernel
theorem dX8_whoIs_80 : decode cX8_whoIs 80 = .ok (.iconst 2, 1) := by decide +kernel
theorem dX8_whoIs_81 : decode cX8_whoIs 81 = .ok (.if_icmp .eq 13, 3) := by decide +kernel
theorem dX8_whoIs_84 : decode cX8_whoIs 84 = .ok (.aload_n 0, 1) := by decide +kernel
theorem dX8_whoIs_85 : decode cX8_whoIs 85 = .ok (.getfield 64, 3) := by decide +kernel
theorem dX8_whoIs_88 : decode cX8_whoIs 88 = .ok (.iload_n 1, 1) := by decide +kernel
theorem dX8_whoIs_89 : decode cX8_whoIs 89 = .ok (.iconst 1, 1) := by decide +kernel
theorem dX8_whoIs_90 : decode cX8_whoIs 90 = .ok (.bastore, 1) := by decide +kernel
theorem dX8_whoIs_91 : decode cX8_whoIs 91 = .ok (.goto 68, 3) := by decide +kernel
theorem dX8_whoIs_94 : decode cX8_whoIs 94 = .ok (.aload_n 0, 1) := by decide +kernel
theorem dX8_whoIs_95 : decode cX8_whoIs 95 = .ok (.getfield 15, 3) := by decide +kernel
theorem dX8_whoIs_98 : decode cX8_whoIs 98 = .ok (.iconst 2, 1) := by decide +kernel
theorem dX8_whoIs_99 : decode cX8_whoIs 99 = .ok (.aaload, 1) := by decide +kernel
theorem dX8_whoIs_100 : decode cX8_whoIs 100 = .ok (.iload_n 1, 1) := by decide +kernel
theorem dX8_whoIs_101 : decode cX8_whoIs 101 = .ok (.baload, 1) := by decide +kernel
theorem dX8_whoIs_102 : decode cX8_whoIs 102 = .ok (.ifCond .eq 57, 3) := by decide +kernel
theorem dX8_whoIs_105 : decode cX8_whoIs 105 = .ok (.iload_n 2, 1) := by decide +kernel
theorem dX8_whoIs_106 : decode cX8_whoIs 106 = .ok (.iconst 2, 1) := by decide +kernel
theorem dX8_whoIs_107 : decode cX8_whoIs 107 = .ok (.if_icmp .ne 7, 3) := by decide +kernel
theorem dX8_whoIs_110 : decode cX8_whoIs 110 = .ok (.iconst 1, 1) := by decide +kernel
theorem dX8_whoIs_111 : decode cX8_whoIs 111 = .ok (.goto 4, 3) := by decide +kernel
theorem dX8_whoIs_114 : decode cX8_whoIs 114 = .ok (.iconst 0, 1) := by decide +kernel
theorem dX8_whoIs_115 : decode cX8_whoIs 115 = .ok (.iload_n 3, 1) := by decide +kernel
theorem dX8_whoIs_116 : decode cX8_whoIs 116 = .ok (.iconst 2, 1) := by decide +kernel
theorem dX8_whoIs_117 : decode cX8_whoIs 117 = .ok (.if_icmp .ne 7, 3) := by decide +kernel
theorem dX8_whoIs_120 : decode cX8_whoIs 120 = .ok (.iconst 1, 1) := by decide +kernel
theorem dX8_whoIs_121 : decode cX8_whoIs 121 = .ok (.goto 4, 3) := by decide +kernel
theorem dX8_whoIs_124 : decode cX8_whoIs 124 = .ok (.iconst 0, 1) := by decide +kernel
theorem dX8_whoIs_125 : decode cX8_whoIs 125 = .ok (.if_icmp .eq 34, 3) := by decide +kernel
theorem dX8_whoIs_128 : decode cX8_whoIs 128 = .ok (.aload_n 0, 1) := by decide +kernel
theorem dX8_whoIs_129 : decode cX8_whoIs 129 = .ok (.iload_n 2, 1) := by decide +kernel
theorem dX8_whoIs_130 : decode cX8_whoIs 130 = .ok (.iconst 2, 1) := by decide +kernel
theorem dX8_whoIs_131 : decode cX8_whoIs 131 = .ok (.if_icmp .ne 7, 3) := by decide +kernel
theorem dX8_whoIs_134 : decode cX8_whoIs 134 = .ok (.iconst 1, 1) := by decide +kernel
theorem dX8_whoIs_135 : decode cX8_whoIs 135 = .ok (.goto 4, 3) := by decide +kernel
theorem dX8_whoIs_138 : decode cX8_whoIs 138 = .ok (.iconst 0, 1) := by decide +kernel
theorem dX8_whoIs_139 : decode cX8_whoIs 139 = .ok (.iload_n 1, 1) := by decide +kernel
theorem dX8_whoIs_140 : decode cX8_whoIs 140 = .ok (.invokevirtual 252, 3) := by decide +kernel
theorem dX8_whoIs_143 : decode cX8_whoIs 143 = .ok (.ifCond .eq 16, 3) := by decide +kernel
theorem dX8_whoIs_146 : decode cX8_whoIs 146 = .ok (.aload_n 0, 1) := by decide +kernel
theorem dX8_whoIs_147 : decode cX8_whoIs 147 = .ok (.getfield 64, 3) := by decide +kernel
theorem dX8_whoIs_150 : decode cX8_whoIs 150 = .ok (.iload_n 1, 1) := by decide +kernel
theorem dX8_whoIs_151 : decode cX8_whoIs 151 = .ok (.iconst 1, 1) := by decide +kernel
theorem dX8_whoIs_152 : decode cX8_whoIs 152 = .ok (.bastore, 1) := by decide +kernel
theorem dX8_whoIs_153 : decode cX8_whoIs 153 = .ok (.aload_n 0, 1) := by decide +kernel
theorem dX8_whoIs_154 : decode cX8_whoIs 154 = .ok (.iconst 0, 1) := by decide +kernel
theorem dX8_whoIs_155 : decode cX8_whoIs 155 = .ok (.iload_n 1, 1) := by decide +kernel
theorem dX8_whoIs_156 : decode cX8_whoIs 156 = .ok (.invokevirtual 255, 3) := by decide +kernel
theorem dX8_whoIs_159 : decode cX8_whoIs 159 = .ok (.return_, 1) := by decide +kernel
theorem dX8_sideFor_0 : decode cX8_sideFor 0 = .ok (.aload_n 0, 1) := by decide +kernel
theorem dX8_sideFor_1 : decode cX8_sideFor 1 = .ok (.iconst 0, 1) := by decide +kernel
theorem dX8_sideFor_2 : decode cX8_sideFor 2 = .ok (.iload_n 1, 1) := by decide +kernel
theorem dX8_sideFor_3 : decode cX8_sideFor 3 = .ok (.invokevirtual 199, 3) := by decide +kernel
theorem dX8_sideFor_6 : decode cX8_sideFor 6 = .ok (.istore 4, 2) := by decide +kernel
theorem dX8_sideFor_8 : decode cX8_sideFor 8 = .ok (.aload_n 0, 1) := by decide +kernel
theorem dX8_sideFor_9 : decode cX8_sideFor 9 = .ok (.iconst 1, 1) := by decide +kernel
theorem dX8_sideFor_10 : decode cX8_sideFor 10 = .ok (.iload_n 1, 1) := by decide +kernel
theorem dX8_sideFor_11 : decode cX8_sideFor 11 = .ok (.invokevirtual 199, 3) := by decide +kernel
theorem dX8_sideFor_14 : decode cX8_sideFor 14 = .ok (.istore 5, 2) := by decide +kernel
theorem dX8_sideFor_16 : decode cX8_sideFor 16 = .ok (.aload_n 0, 1) := by decide +kernel
theorem dX8_sideFor_17 : decode cX8_sideFor 17 = .ok (.getfield 15, 3) := by decide +kernel
theorem dX8_sideFor_20 : decode cX8_sideFor 20 = .ok (.iconst 2, 1) := by decide +kernel
theorem dX8_sideFor_21 : decode cX8_sideFor 21 = .ok (.aaload, 1) := by decide +kernel
theorem dX8_sideFor_22 : decode cX8_sideFor 22 = .ok (.iload_n 1, 1) := by decide +kernel
theorem dX8_sideFor_23 : decode cX8_sideFor 23 = .ok (.baload, 1) := by decide +kernel
theorem dX8_sideFor_24 : decode cX8_sideFor 24 = .ok (.ifCond .eq 19, 3) := by decide +kernel
theorem dX8_sideFor_27 : decode cX8_sideFor 27 = .ok (.iload 4, 2) := by decide +kernel
theorem dX8_sideFor_29 : decode cX8_sideFor 29 = .ok (.iconst 2, 1) := by decide +kernel
theorem dX8_sideFor_30 : decode cX8_sideFor 30 = .ok (.if_icmp .eq 13, 3) := by decide +kernel
theorem dX8_sideFor_33 : decode cX8_sideFor 33 = .ok (.iload 5, 2) := by decide +kernel
theorem dX8_sideFor_35 : decode cX8_sideFor 35 = .ok (.iconst 2, 1) := by decide +kernel
theorem dX8_sideFor_36 : decode cX8_sideFor 36 = .ok (.if_icmp .eq 7, 3) := by decide +kernel
theorem dX8_sideFor_39 : decode cX8_sideFor 39 = .ok (.iconst 1, 1) := by decide +kernel
theorem dX8_sideFor_40 : decode cX8_sideFor 40 = .ok (.goto 4, 3) := by decide +kernel
theorem dX8_sideFor_43 : decode cX8_sideFor 43 = .ok (.iconst 0, 1) := by decide +kernel
theorem dX8_sideFor_44 : decode cX8_sideFor 44 = .ok (.istore 6, 2) := by decide +kernel
theorem dX8_sideFor_46 : decode cX8_sideFor 46 = .ok (.iload 6, 2) := by decide +kernel
theorem dX8_sideFor_48 : decode cX8_sideFor 48 = .ok (.ifCond .ne 22, 3) := by decide +kernel
theorem dX8_sideFor_51 : decode cX8_sideFor 51 = .ok (.aload_n 0, 1) := by decide +kernel
theorem dX8_sideFor_52 : decode cX8_sideFor 52 = .ok (.getfield 15, 3) := by decide +kernel
theorem dX8_sideFor_55 : decode cX8_sideFor 55 = .ok (.iload_n 3, 1) := by decide +kernel
theorem dX8_sideFor_56 : decode cX8_sideFor 56 = .ok (.aaload, 1) := by decide +kernel
theorem dX8_sideFor_57 : decode cX8_sideFor 57 = .ok (.iload_n 1, 1) := by decide +kernel
theorem dX8_sideFor_58 : decode cX8_sideFor 58 = .ok (.baload, 1) := by decide +kernel
theorem dX8_sideFor_59 : decode cX8_sideFor 59 = .ok (.ifCond .eq 7, 3) := by decide +kernel
theorem dX8_sideFor_62 : decode cX8_sideFor 62 = .ok (.iload_n 3, 1) := by decide +kernel
theorem dX8_sideFor_63 : decode cX8_sideFor 63 = .ok (.goto 6, 3) := by decide +kernel
theorem dX8_sideFor_66 : decode cX8_sideFor 66 = .ok (.iconst 1, 1) := by decide +kernel
theorem dX8_sideFor_67 : decode cX8_sideFor 67 = .ok (.iload_n 3, 1) := by decide +kernel
theorem dX8_sideFor_68 : decode cX8_sideFor 68 = .ok (.isub, 1) := by decide +kernel
theorem dX8_sideFor_69 : decode cX8_sideFor 69 = .ok (.ireturn, 1) := by decide +kernel
theorem dX8_sideFor_70 : decode cX8_sideFor 70 = .ok (.iload 4, 2) := by decide +kernel
theorem dX8_sideFor_72 : decode cX8_sideFor 72 = .ok (.iload_n 2, 1) := by decide +kernel
theorem dX8_sideFor_73 : decode cX8_sideFor 73 = .ok (.iand, 1) := by decide +kernel
theorem dX8_sideFor_74 : decode cX8_sideFor 74 = .ok (.ifCond .eq 7, 3) := by decide +kernel
theorem dX8_sideFor_77 : decode cX8_sideFor 77 = .ok (.iconst 1, 1) := by decide +kernel
theorem dX8_sideFor_78 : decode cX8_sideFor 78 = .ok (.goto 4, 3) := by decide +kernel
theorem dX8_sideFor_81 : decode cX8_sideFor 81 = .ok (.iconst 0, 1) := by decide +kernel
theorem dX8_sideFor_82 : decode cX8_sideFor 82 = .ok (.istore 7, 2) := by decide +kernel
theorem dX8_sideFor_84 : decode cX8_sideFor 84 = .ok (.iload 5, 2) := by decide +kernel
theorem dX8_sideFor_86 : decode cX8_sideFor 86 = .ok (.iload_n 2, 1) := by decide +kernel
theorem dX8_sideFor_87 : decode cX8_sideFor 87 = .ok (.iand, 1) := by decide +kernel
theorem dX8_sideFor_88 : decode cX8_sideFor 88 = .ok (.ifCond .eq 7, 3) := by decide +kernel
theorem dX8_sideFor_91 : decode cX8_sideFor 91 = .ok (.iconst 1, 1) := by decide +kernel
theorem dX8_sideFor_92 : decode cX8_sideFor 92 = .ok (.goto 4, 3) := by decide +kernel
theorem dX8_sideFor_95 : decode cX8_sideFor 95 = .ok (.iconst 0, 1) := by decide +kernel
theorem dX8_sideFor_96 : decode cX8_sideFor 96 = .ok (.istore 8, 2) := by decide +kernel
theorem dX8_sideFor_98 : decode cX8_sideFor 98 = .ok (.iload 7, 2) := by decide +kernel
theorem dX8_sideFor_100 : decode cX8_sideFor 100 = .ok (.ifCond .eq 12, 3) := by decide +kernel
theorem dX8_sideFor_103 : decode cX8_sideFor 103 = .ok (.iload 8, 2) := by decide +kernel
theorem dX8_sideFor_105 : decode cX8_sideFor 105 = .ok (.ifCond .eq 7, 3) := by decide +kernel
theorem dX8_sideFor_108 : decode cX8_sideFor 108 = .ok (.iload_n 3, 1) := by decide +kernel
theorem dX8_sideFor_109 : decode cX8_sideFor 109 = .ok (.goto 22, 3) := by decide +kernel
theorem dX8_sideFor_112 : decode cX8_sideFor 112 = .ok (.iload 7, 2) := by decide +kernel
theorem dX8_sideFor_114 : decode cX8_sideFor 114 = .ok (.ifCond .eq 7, 3) := by decide +kernel
theorem dX8_sideFor_117 : decode cX8_sideFor 117 = .ok (.iconst 0, 1) := by decide +kernel
theorem dX8_sideFor_118 : decode cX8_sideFor 118 = .ok (.goto 13, 3) := by decide +kernel
theorem dX8_sideFor_121 : decode cX8_sideFor 121 = .ok (.iload 8, 2) := by decide +kernel
theorem dX8_sideFor_123 : decode cX8_sideFor 123 = .ok (.ifCond .eq 7, 3) := by decide +kernel
theorem dX8_sideFor_126 : decode cX8_sideFor 126 = .ok (.iconst 1, 1) := by decide +kernel
theorem dX8_sideFor_127 : decode cX8_sideFor 127 = .ok (.goto 4, 3) := by decide +kernel
theorem dX8_sideFor_130 : decode cX8_sideFor 130 = .ok (.iconst 2, 1) := by decide +kernel
theorem dX8_sideFor_131 : decode cX8_sideFor 131 = .ok (.ireturn, 1) := by decide +kernel
theorem dX8_places_0 : decode cX8_places 0 = .ok (.aload_n 0, 1) := by decide +kernel
theorem dX8_places_1 : decode cX8_places 1 = .ok (.iload_n 1, 1) := by decide +kernel
theorem dX8_places_2 : decode cX8_places 2 = .ok (.iconst 4, 1) := by decide +kernel
theorem dX8_places_3 : decode cX8_places 3 = .ok (.iload_n 2, 1) := by decide +kernel
theorem dX8_places_4 : decode cX8_places 4 = .ok (.invokevirtual 257, 3) := by decide +kernel
theorem dX8_places_7 : decode cX8_places 7 = .ok (.istore_n 3, 1) := by decide +kernel
theorem dX8_places_8 : decode cX8_places 8 = .ok (.aload_n 0, 1) := by decide +kernel
theorem dX8_places_9 : decode cX8_places 9 = .ok (.getfield 70, 3) := by decide +kernel
theorem dX8_places_12 : decode cX8_places 12 = .ok (.iload_n 1, 1) := by decide +kernel
theorem dX8_places_13 : decode cX8_places 13 = .ok (.aload_n 0, 1) := by decide +kernel
theorem dX8_places_14 : decode cX8_places 14 = .ok (.getfield 20, 3) := by decide +kernel
theorem dX8_places_17 : decode cX8_places 17 = .ok (.iload_n 3, 1) := by decide +kernel
theorem dX8_places_18 : decode cX8_places 18 = .ok (.aaload, 1) := by decide +kernel
theorem dX8_places_19 : decode cX8_places 19 = .ok (.iload_n 1, 1) := by decide +kernel
theorem dX8_places_20 : decode cX8_places 20 = .ok (.iaload, 1) := by decide +kernel
theorem dX8_places_21 : decode cX8_places 21 = .ok (.iastore, 1) := by decide +kernel
theorem dX8_places_22 : decode cX8_places 22 = .ok (.aload_n 0, 1) := by decide +kernel
theorem dX8_places_23 : decode cX8_places 23 = .ok (.getfield 73, 3) := by decide +kernel
theorem dX8_places_26 : decode cX8_places 26 = .ok (.iload_n 1, 1) := by decide +kernel
theorem dX8_places_27 : decode cX8_places 27 = .ok (.aload_n 0, 1) := by decide +kernel
theorem dX8_places_28 : decode cX8_places 28 = .ok (.getfield 23, 3) := by decide +kernel
theorem dX8_places_31 : decode cX8_places 31 = .ok (.iload_n 3, 1) := by decide +kernel
theorem dX8_places_32 : decode cX8_places 32 = .ok (.aaload, 1) := by decide +kernel
theorem dX8_places_33 : decode cX8_places 33 = .ok (.iload_n 1, 1) := by decide +kernel
theorem dX8_places_34 : decode cX8_places 34 = .ok (.iaload, 1) := by decide +kernel
theorem dX8_places_35 : decode cX8_places 35 = .ok (.iastore, 1) := by decide +kernel
theorem dX8_places_36 : decode cX8_places 36 = .ok (.aload_n 0, 1) := by decide +kernel
theorem dX8_places_37 : decode cX8_places 37 = .ok (.getfield 15, 3) := by decide +kernel
theorem dX8_places_40 : decode cX8_places 40 = .ok (.iconst 2, 1) := by decide +kernel
theorem dX8_places_41 : decode cX8_places 41 = .ok (.aaload, 1) := by decide +kernel
theorem dX8_places_42 : decode cX8_places 42 = .ok (.iload_n 1, 1) := by decide +kernel
theorem dX8_places_43 : decode cX8_places 43 = .ok (.baload, 1) := by decide +kernel
theorem dX8_places_44 : decode cX8_places 44 = .ok (.ifCond .eq 29, 3) := by decide +kernel
theorem dX8_places_47 : decode cX8_places 47 = .ok (.aload_n 0, 1) := by decide +kernel
theorem dX8_places_48 : decode cX8_places 48 = .ok (.iconst 0, 1) := by decide +kernel
theorem dX8_places_49 : decode cX8_places 49 = .ok (.iload_n 1, 1) := by decide +kernel
theorem dX8_places_50 : decode cX8_places 50 = .ok (.invokevirtual 199, 3) := by decide +kernel
theorem dX8_places_53 : decode cX8_places 53 = .ok (.iconst 4, 1) := by decide +kernel
theorem dX8_places_54 : decode cX8_places 54 = .ok (.iand, 1) := by decide +kernel
theorem dX8_places_55 : decode cX8_places 55 = .ok (.ifCond .eq 18, 3) := by decide +kernel
theorem dX8_places_58 : decode cX8_places 58 = .ok (.aload_n 0, 1) := by decide +kernel
theorem dX8_places_59 : decode cX8_places 59 = .ok (.iconst 1, 1) := by decide +kernel
theorem dX8_places_60 : decode cX8_places 60 = .ok (.iload_n 1, 1) := by decide +kernel
theorem dX8_places_61 : decode cX8_places 61 = .ok (.invokevirtual 199, 3) := by decide +kernel
theorem dX8_places_64 : decode cX8_places 64 = .ok (.iconst 4, 1) := by decide +kernel
theorem dX8_places_65 : decode cX8_places 65 = .ok (.iand, 1) := by decide +kernel
theorem dX8_places_66 : decode cX8_places 66 = .ok (.ifCond .eq 7, 3) := by decide +kernel
theorem dX8_places_69 : decode cX8_places 69 = .ok (.iconst 1, 1) := by decide +kernel
theorem dX8_places_70 : decode cX8_places 70 = .ok (.goto 4, 3) := by decide +kernel
theorem dX8_places_73 : decode cX8_places 73 = .ok (.iconst 0, 1) := by decide +kernel
theorem dX8_places_74 : decode cX8_places 74 = .ok (.istore 4, 2) := by decide +kernel
theorem dX8_places_76 : decode cX8_places 76 = .ok (.iload 4, 2) := by decide +kernel
theorem dX8_places_78 : decode cX8_places 78 = .ok (.ifCond .eq 47, 3) := by decide +kernel
theorem dX8_places_81 : decode cX8_places 81 = .ok (.aload_n 0, 1) := by decide +kernel
theorem dX8_places_82 : decode cX8_places 82 = .ok (.getfield 20, 3) := by decide +kernel
theorem dX8_places_85 : decode cX8_places 85 = .ok (.iconst 0, 1) := by decide +kernel
theorem dX8_places_86 : decode cX8_places 86 = .ok (.aaload, 1) := by decide +kernel
theorem dX8_places_87 : decode cX8_places 87 = .ok (.iload_n 1, 1) := by decide +kernel
theorem dX8_places_88 : decode cX8_places 88 = .ok (.iaload, 1) := by decide +kernel
theorem dX8_places_89 : decode cX8_places 89 = .ok (.aload_n 0, 1) := by decide +kernel
theorem dX8_places_90 : decode cX8_places 90 = .ok (.getfield 20, 3) := by decide +kernel
theorem dX8_places_93 : decode cX8_places 93 = .ok (.iconst 1, 1) := by decide +kernel
theorem dX8_places_94 : decode cX8_places 94 = .ok (.aaload, 1) := by decide +kernel
theorem dX8_places_95 : decode cX8_places 95 = .ok (.iload_n 1, 1) := by decide +kernel
theorem dX8_places_96 : decode cX8_places 96 = .ok (.iaload, 1) := by decide +kernel
theorem dX8_places_97 : decode cX8_places 97 = .ok (.if_icmp .ne 22, 3) := by decide +kernel
theorem dX8_places_100 : decode cX8_places 100 = .ok (.aload_n 0, 1) := by decide +kernel
theorem dX8_places_101 : decode cX8_places 101 = .ok (.getfield 23, 3) := by decide +kernel
theorem dX8_places_104 : decode cX8_places 104 = .ok (.iconst 0, 1) := by decide +kernel
theorem dX8_places_105 : decode cX8_places 105 = .ok (.aaload, 1) := by decide +kernel
theorem dX8_places_106 : decode cX8_places 106 = .ok (.iload_n 1, 1) := by decide +kernel
theorem dX8_places_107 : decode cX8_places 107 = .ok (.iaload, 1) := by decide +kernel
theorem dX8_places_108 : decode cX8_places 108 = .ok (.aload_n 0, 1) := by decide +kernel
theorem dX8_places_109 : decode cX8_places 109 = .ok (.getfield 23, 3) := by decide +kernel
theorem dX8_places_112 : decode cX8_places 112 = .ok (.iconst 1, 1) := by decide +kernel
theorem dX8_places_113 : decode cX8_places 113 = .ok (.aaload, 1) := by decide +kernel
theorem dX8_places_114 : decode cX8_places 114 = .ok (.iload_n 1, 1) := by decide +kernel
theorem dX8_places_115 : decode cX8_places 115 = .ok (.iaload, 1) := by decide +kernel
theorem dX8_places_116 : decode cX8_places 116 = .ok (.if_icmp .eq 9, 3) := by decide +kernel
theorem dX8_places_119 : decode cX8_places 119 = .ok (.aload_n 0, 1) := by decide +kernel
theorem dX8_places_120 : decode cX8_places 120 = .ok (.iconst 1, 1) := by decide +kernel
theorem dX8_places_121 : decode cX8_places 121 = .ok (.iload_n 1, 1) := by decide +kernel
theorem dX8_places_122 : decode cX8_places 122 = .ok (.invokevirtual 255, 3) := by decide +kernel
theorem dX8_places_125 : decode cX8_places 125 = .ok (.return_, 1) := by decide +kernel
theorem dX8_fills_0 : decode cX8_fills 0 = .ok (.aload_n 0, 1) := by decide +kernel
theorem dX8_fills_1 : decode cX8_fills 1 = .ok (.iload_n 1, 1) := by decide +kernel
theorem dX8_fills_2 : decode cX8_fills 2 = .ok (.bipush 8, 2) := by decide +kernel
theorem dX8_fills_4 : decode cX8_fills 4 = .ok (.iload_n 2, 1) := by decide +kernel
theorem dX8_fills_5 : decode cX8_fills 5 = .ok (.invokevirtual 257, 3) := by decide +kernel
theorem dX8_fills_8 : decode cX8_fills 8 = .ok (.istore_n 3, 1) := by decide +kernel
theorem dX8_fills_9 : decode cX8_fills 9 = .ok (.aload_n 0, 1) := by decide +kernel
theorem dX8_fills_10 : decode cX8_fills 10 = .ok (.getfield 76, 3) := by decide +kernel
theorem dX8_fills_13 : decode cX8_fills 13 = .ok (.iload_n 1, 1) := by decide +kernel
theorem dX8_fills_14 : decode cX8_fills 14 = .ok (.aload_n 0, 1) := by decide +kernel
theorem dX8_fills_15 : decode cX8_fills 15 = .ok (.getfield 26, 3) := by decide +kernel
theorem dX8_fills_18 : decode cX8_fills 18 = .ok (.iload_n 3, 1) := by decide +kernel
theorem dX8_fills_19 : decode cX8_fills 19 = .ok (.aaload, 1) := by decide +kernel
theorem dX8_fills_20 : decode cX8_fills 20 = .ok (.iload_n 1, 1) := by decide +kernel
theorem dX8_fills_21 : decode cX8_fills 21 = .ok (.iaload, 1) := by decide +kernel
theorem dX8_fills_22 : decode cX8_fills 22 = .ok (.iastore, 1) := by decide +kernel
theorem dX8_fills_23 : decode cX8_fills 23 = .ok (.aload_n 0, 1) := by decide +kernel
theorem dX8_fills_24 : decode cX8_fills 24 = .ok (.getfield 15, 3) := by decide +kernel
theorem dX8_fills_27 : decode cX8_fills 27 = .ok (.iconst 2, 1) := by decide +kernel
theorem dX8_fills_28 : decode cX8_fills 28 = .ok (.aaload, 1) := by decide +kernel
theorem dX8_fills_29 : decode cX8_fills 29 = .ok (.iload_n 1, 1) := by decide +kernel
theorem dX8_fills_30 : decode cX8_fills 30 = .ok (.baload, 1) := by decide +kernel
theorem dX8_fills_31 : decode cX8_fills 31 = .ok (.ifCond .eq 31, 3) := by decide +kernel
theorem dX8_fills_34 : decode cX8_fills 34 = .ok (.aload_n 0, 1) := by decide +kernel
theorem dX8_fills_35 : decode cX8_fills 35 = .ok (.iconst 0, 1) := by decide +kernel
theorem dX8_fills_36 : decode cX8_fills 36 = .ok (.iload_n 1, 1) := by decide +kernel
theorem dX8_fills_37 : decode cX8_fills 37 = .ok (.invokevirtual 199, 3) := by decide +kernel
theorem dX8_fills_40 : decode cX8_fills 40 = .ok (.bipush 8, 2) := by decide +kernel
theorem dX8_fills_42 : decode cX8_fills 42 = .ok (.iand, 1) := by decide +kernel
theorem dX8_fills_43 : decode cX8_fills 43 = .ok (.ifCond .eq 19, 3) := by decide +kernel
theorem dX8_fills_46 : decode cX8_fills 46 = .ok (.aload_n 0, 1) := by decide +kernel
theorem dX8_fills_47 : decode cX8_fills 47 = .ok (.iconst 1, 1) := by decide +kernel
theorem dX8_fills_48 : decode cX8_fills 48 = .ok (.iload_n 1, 1) := by decide +kernel
theorem dX8_fills_49 : decode cX8_fills 49 = .ok (.invokevirtual 199, 3) := by decide +kernel
theorem dX8_fills_52 : decode cX8_fills 52 = .ok (.bipush 8, 2) := by decide +kernel
theorem dX8_fills_54 : decode cX8_fills 54 = .ok (.iand, 1) := by decide +kernel
theorem dX8_fills_55 : decode cX8_fills 55 = .ok (.ifCond .eq 7, 3) := by decide +kernel
theorem dX8_fills_58 : decode cX8_fills 58 = .ok (.iconst 1, 1) := by decide +kernel
theorem dX8_fills_59 : decode cX8_fills 59 = .ok (.goto 4, 3) := by decide +kernel
theorem dX8_fills_62 : decode cX8_fills 62 = .ok (.iconst 0, 1) := by decide +kernel
theorem dX8_fills_63 : decode cX8_fills 63 = .ok (.istore 4, 2) := by decide +kernel
theorem dX8_fills_65 : decode cX8_fills 65 = .ok (.iload 4, 2) := by decide +kernel
theorem dX8_fills_67 : decode cX8_fills 67 = .ok (.ifCond .eq 22, 3) := by decide +kernel
theorem dX8_fills_70 : decode cX8_fills 70 = .ok (.aload_n 0, 1) := by decide +kernel
theorem dX8_fills_71 : decode cX8_fills 71 = .ok (.getfield 26, 3) := by decide +kernel
theorem dX8_fills_74 : decode cX8_fills 74 = .ok (.iconst 0, 1) := by decide +kernel
theorem dX8_fills_75 : decode cX8_fills 75 = .ok (.aaload, 1) := by decide +kernel
theorem dX8_fills_76 : decode cX8_fills 76 = .ok (.iload_n 1, 1) := by decide +kernel
theorem dX8_fills_77 : decode cX8_fills 77 = .ok (.iaload, 1) := by decide +kernel
theorem dX8_fills_78 : decode cX8_fills 78 = .ok (.aload_n 0, 1) := by decide +kernel
theorem dX8_fills_79 : decode cX8_fills 79 = .ok (.getfield 26, 3) := by decide +kernel
theorem dX8_fills_82 : decode cX8_fills 82 = .ok (.iconst 1, 1) := by decide +kernel
theorem dX8_fills_83 : decode cX8_fills 83 = .ok (.aaload, 1) := by decide +kernel
theorem dX8_fills_84 : decode cX8_fills 84 = .ok (.iload_n 1, 1) := by decide +kernel
theorem dX8_fills_85 : decode cX8_fills 85 = .ok (.iaload, 1) := by decide +kernel
theorem dX8_fills_86 : decode cX8_fills 86 = .ok (.if_icmp .ne 4, 3) := by decide +kernel
theorem dX8_fills_89 : decode cX8_fills 89 = .ok (.return_, 1) := by decide +kernel
theorem dX8_fills_90 : decode cX8_fills 90 = .ok (.aload_n 0, 1) := by decide +kernel
theorem dX8_fills_91 : decode cX8_fills 91 = .ok (.iconst 2, 1) := by decide +kernel
theorem dX8_fills_92 : decode cX8_fills 92 = .ok (.iload_n 1, 1) := by decide +kernel
theorem dX8_fills_93 : decode cX8_fills 93 = .ok (.invokevirtual 255, 3) := by decide +kernel
theorem dX8_fills_96 : decode cX8_fills 96 = .ok (.aload_n 0, 1) := by decide +kernel
theorem dX8_fills_97 : decode cX8_fills 97 = .ok (.getfield 260, 3) := by decide +kernel
theorem dX8_fills_100 : decode cX8_fills 100 = .ok (.bipush 30, 2) := by decide +kernel
theorem dX8_fills_102 : decode cX8_fills 102 = .ok (.if_icmp .ne 4, 3) := by decide +kernel
theorem dX8_fills_105 : decode cX8_fills 105 = .ok (.return_, 1) := by decide +kernel
theorem dX8_fills_106 : decode cX8_fills 106 = .ok (.aload_n 0, 1) := by decide +kernel
theorem dX8_fills_107 : decode cX8_fills 107 = .ok (.getfield 64, 3) := by decide +kernel
theorem dX8_fills_110 : decode cX8_fills 110 = .ok (.aload_n 0, 1) := by decide +kernel
theorem dX8_fills_111 : decode cX8_fills 111 = .ok (.getfield 260, 3) := by decide +kernel
theorem dX8_fills_114 : decode cX8_fills 114 = .ok (.iconst 1, 1) := by decide +kernel
theorem dX8_fills_115 : decode cX8_fills 115 = .ok (.bastore, 1) := by decide +kernel
theorem dX8_fills_116 : decode cX8_fills 116 = .ok (.aload_n 0, 1) := by decide +kernel
theorem dX8_fills_117 : decode cX8_fills 117 = .ok (.getfield 67, 3) := by decide +kernel
theorem dX8_fills_120 : decode cX8_fills 120 = .ok (.aload_n 0, 1) := by decide +kernel
theorem dX8_fills_121 : decode cX8_fills 121 = .ok (.getfield 260, 3) := by decide +kernel
theorem dX8_fills_124 : decode cX8_fills 124 = .ok (.iconst 0, 1) := by decide +kernel
theorem dX8_fills_125 : decode cX8_fills 125 = .ok (.bastore, 1) := by decide +kernel
theorem dX8_fills_126 : decode cX8_fills 126 = .ok (.aload_n 0, 1) := by decide +kernel
theorem dX8_fills_127 : decode cX8_fills 127 = .ok (.getfield 70, 3) := by decide +kernel
theorem dX8_fills_130 : decode cX8_fills 130 = .ok (.aload_n 0, 1) := by decide +kernel
theorem dX8_fills_131 : decode cX8_fills 131 = .ok (.getfield 260, 3) := by decide +kernel
theorem dX8_fills_134 : decode cX8_fills 134 = .ok (.aload_n 0, 1) := by decide +kernel
theorem dX8_fills_135 : decode cX8_fills 135 = .ok (.getfield 70, 3) := by decide +kernel
theorem dX8_fills_138 : decode cX8_fills 138 = .ok (.iload_n 1, 1) := by decide +kernel
theorem dX8_fills_139 : decode cX8_fills 139 = .ok (.iaload, 1) := by decide +kernel
theorem dX8_fills_140 : decode cX8_fills 140 = .ok (.iastore, 1) := by decide +kernel
theorem dX8_fills_141 : decode cX8_fills 141 = .ok (.aload_n 0, 1) := by decide +kernel
theorem dX8_fills_142 : decode cX8_fills 142 = .ok (.getfield 73, 3) := by decide +kernel
theorem dX8_fills_145 : decode cX8_fills 145 = .ok (.aload_n 0, 1) := by decide +kernel
theorem dX8_fills_146 : decode cX8_fills 146 = .ok (.getfield 260, 3) := by decide +kernel
theorem dX8_fills_149 : decode cX8_fills 149 = .ok (.aload_n 0, 1) := by decide +kernel
theorem dX8_fills_150 : decode cX8_fills 150 = .ok (.getfield 73, 3) := by decide +kernel
theorem dX8_fills_153 : decode cX8_fills 153 = .ok (.iload_n 1, 1) := by decide +kernel
theorem dX8_fills_154 : decode cX8_fills 154 = .ok (.iaload, 1) := by decide +kernel
theorem dX8_fills_155 : decode cX8_fills 155 = .ok (.iastore, 1) := by decide +kernel
theorem dX8_fills_156 : decode cX8_fills 156 = .ok (.aload_n 0, 1) := by decide +kernel
theorem dX8_fills_157 : decode cX8_fills 157 = .ok (.getfield 76, 3) := by decide +kernel
theorem dX8_fills_160 : decode cX8_fills 160 = .ok (.aload_n 0, 1) := by decide +kernel
theorem dX8_fills_161 : decode cX8_fills 161 = .ok (.getfield 260, 3) := by decide +kernel
theorem dX8_fills_164 : decode cX8_fills 164 = .ok (.aload_n 0, 1) := by decide +kernel
theorem dX8_fills_165 : decode cX8_fills 165 = .ok (.getfield 26, 3) := by decide +kernel
theorem dX8_fills_168 : decode cX8_fills 168 = .ok (.iconst 1, 1) := by decide +kernel
theorem dX8_fills_169 : decode cX8_fills 169 = .ok (.iload_n 2, 1) := by decide +kernel
theorem dX8_fills_170 : decode cX8_fills 170 = .ok (.isub, 1) := by decide +kernel
theorem dX8_fills_171 : decode cX8_fills 171 = .ok (.aaload, 1) := by decide +kernel
theorem dX8_fills_172 : decode cX8_fills 172 = .ok (.iload_n 1, 1) := by decide +kernel
theorem dX8_fills_173 : decode cX8_fills 173 = .ok (.iaload, 1) := by decide +kernel
theorem dX8_fills_174 : decode cX8_fills 174 = .ok (.iastore, 1) := by decide +kernel
theorem dX8_fills_175 : decode cX8_fills 175 = .ok (.aload_n 0, 1) := by decide +kernel
theorem dX8_fills_176 : decode cX8_fills 176 = .ok (.dup, 1) := by decide +kernel
theorem dX8_fills_177 : decode cX8_fills 177 = .ok (.getfield 260, 3) := by decide +kernel
theorem dX8_fills_180 : decode cX8_fills 180 = .ok (.iconst 1, 1) := by decide +kernel
theorem dX8_fills_181 : decode cX8_fills 181 = .ok (.iadd, 1) := by decide +kernel
theorem dX8_fills_182 : decode cX8_fills 182 = .ok (.putfield 260, 3) := by decide +kernel
theorem dX8_fills_185 : decode cX8_fills 185 = .ok (.return_, 1) := by decide +kernel
theorem dX8_isInRing_0 : decode cX8_isInRing 0 = .ok (.aload_n 0, 1) := by decide +kernel
theorem dX8_isInRing_1 : decode cX8_isInRing 1 = .ok (.getfield 70, 3) := by decide +kernel
theorem dX8_isInRing_4 : decode cX8_isInRing 4 = .ok (.iload_n 1, 1) := by decide +kernel
theorem dX8_isInRing_5 : decode cX8_isInRing 5 = .ok (.iaload, 1) := by decide +kernel
theorem dX8_isInRing_6 : decode cX8_isInRing 6 = .ok (.istore_n 2, 1) := by decide +kernel
theorem dX8_isInRing_7 : decode cX8_isInRing 7 = .ok (.iconst 0, 1) := by decide +kernel
theorem dX8_isInRing_8 : decode cX8_isInRing 8 = .ok (.istore_n 3, 1) := by decide +kernel
theorem dX8_isInRing_9 : decode cX8_isInRing 9 = .ok (.iload_n 3, 1) := by decide +kernel
theorem dX8_isInRing_10 : decode cX8_isInRing 10 = .ok (.bipush 30, 2) := by decide +kernel
theorem dX8_isInRing_12 : decode cX8_isInRing 12 = .ok (.if_icmp .ge 28, 3) := by decide +kernel
theorem dX8_isInRing_15 : decode cX8_isInRing 15 = .ok (.iload_n 2, 1) := by decide +kernel
theorem dX8_isInRing_16 : decode cX8_isInRing 16 = .ok (.iconst (-1), 1) := by decide +kernel
theorem dX8_isInRing_17 : decode cX8_isInRing 17 = .ok (.if_icmp .eq 23, 3) := by decide +kernel
theorem dX8_isInRing_20 : decode cX8_isInRing 20 = .ok (.iload_n 2, 1) := by decide +kernel
theorem dX8_isInRing_21 : decode cX8_isInRing 21 = .ok (.iload_n 1, 1) := by decide +kernel
theorem dX8_isInRing_22 : decode cX8_isInRing 22 = .ok (.if_icmp .ne 5, 3) := by decide +kernel
theorem dX8_isInRing_25 : decode cX8_isInRing 25 = .ok (.iconst 1, 1) := by decide +kernel
theorem dX8_isInRing_26 : decode cX8_isInRing 26 = .ok (.ireturn, 1) := by decide +kernel
theorem dX8_isInRing_27 : decode cX8_isInRing 27 = .ok (.aload_n 0, 1) := by decide +kernel
theorem dX8_isInRing_28 : decode cX8_isInRing 28 = .ok (.getfield 70, 3) := by decide +kernel
theorem dX8_isInRing_31 : decode cX8_isInRing 31 = .ok (.iload_n 2, 1) := by decide +kernel
theorem dX8_isInRing_32 : decode cX8_isInRing 32 = .ok (.iaload, 1) := by decide +kernel
theorem dX8_isInRing_33 : decode cX8_isInRing 33 = .ok (.istore_n 2, 1) := by decide +kernel
theorem dX8_isInRing_34 : decode cX8_isInRing 34 = .ok (.iinc 3 1, 3) := by decide +kernel
theorem dX8_isInRing_37 : decode cX8_isInRing 37 = .ok (.goto (-28), 3) := by decide +kernel
theorem dX8_isInRing_40 : decode cX8_isInRing 40 = .ok (.iconst 0, 1) := by decide +kernel
theorem dX8_isInRing_41 : decode cX8_isInRing 41 = .ok (.ireturn, 1) := by decide +kernel
theorem dX8_breaksRings_0 : decode cX8_breaksRings 0 = .ok (.iconst 0, 1) := by decide +kernel
theorem dX8_breaksRings_1 : decode cX8_breaksRings 1 = .ok (.istore_n 1, 1) := by decide +kernel
theorem dX8_breaksRings_2 : decode cX8_breaksRings 2 = .ok (.iload_n 1, 1) := by decide +kernel
theorem dX8_breaksRings_3 : decode cX8_breaksRings 3 = .ok (.iconst (-1), 1) := by decide +kernel
theorem dX8_breaksRings_4 : decode cX8_breaksRings 4 = .ok (.if_icmp .eq 62, 3) := by decide +kernel
theorem dX8_breaksRings_7 : decode cX8_breaksRings 7 = .ok (.iconst (-1), 1) := by decide +kernel
theorem dX8_breaksRings_8 : decode cX8_breaksRings 8 = .ok (.istore_n 1, 1) := by decide +kernel
theorem dX8_breaksRings_9 : decode cX8_breaksRings 9 = .ok (.iconst 0, 1) := by decide +kernel
theorem dX8_breaksRings_10 : decode cX8_breaksRings 10 = .ok (.istore_n 2, 1) := by decide +kernel
theorem dX8_breaksRings_11 : decode cX8_breaksRings 11 = .ok (.iload_n 2, 1) := by decide +kernel
theorem dX8_breaksRings_12 : decode cX8_breaksRings 12 = .ok (.aload_n 0, 1) := by decide +kernel
theorem dX8_breaksRings_13 : decode cX8_breaksRings 13 = .ok (.getfield 260, 3) := by decide +kernel
theorem dX8_breaksRings_16 : decode cX8_breaksRings 16 = .ok (.if_icmp .ge 28, 3) := by decide +kernel
theorem dX8_breaksRings_19 : decode cX8_breaksRings 19 = .ok (.aload_n 0, 1) := by decide +kernel
theorem dX8_breaksRings_20 : decode cX8_breaksRings 20 = .ok (.getfield 64, 3) := by decide +kernel
theorem dX8_breaksRings_23 : decode cX8_breaksRings 23 = .ok (.iload_n 2, 1) := by decide +kernel
theorem dX8_breaksRings_24 : decode cX8_breaksRings 24 = .ok (.baload, 1) := by decide +kernel
theorem dX8_breaksRings_25 : decode cX8_breaksRings 25 = .ok (.ifCond .eq 13, 3) := by decide +kernel
theorem dX8_breaksRings_28 : decode cX8_breaksRings 28 = .ok (.aload_n 0, 1) := by decide +kernel
theorem dX8_breaksRings_29 : decode cX8_breaksRings 29 = .ok (.iload_n 2, 1) := by decide +kernel
theorem dX8_breaksRings_30 : decode cX8_breaksRings 30 = .ok (.invokevirtual 263, 3) := by decide +kernel
theorem dX8_breaksRings_33 : decode cX8_breaksRings 33 = .ok (.ifCond .eq 5, 3) := by decide +kernel
theorem dX8_breaksRings_36 : decode cX8_breaksRings 36 = .ok (.iload_n 2, 1) := by decide +kernel
theorem dX8_breaksRings_37 : decode cX8_breaksRings 37 = .ok (.istore_n 1, 1) := by decide +kernel
theorem dX8_breaksRings_38 : decode cX8_breaksRings 38 = .ok (.iinc 2 1, 3) := by decide +kernel
theorem dX8_breaksRings_41 : decode cX8_breaksRings 41 = .ok (.goto (-30), 3) := by decide +kernel
theorem dX8_breaksRings_44 : decode cX8_breaksRings 44 = .ok (.iload_n 1, 1) := by decide +kernel
theorem dX8_breaksRings_45 : decode cX8_breaksRings 45 = .ok (.iconst (-1), 1) := by decide +kernel
theorem dX8_breaksRings_46 : decode cX8_breaksRings 46 = .ok (.if_icmp .ne 4, 3) := by decide +kernel
theorem dX8_breaksRings_49 : decode cX8_breaksRings 49 = .ok (.return_, 1) := by decide +kernel
theorem dX8_breaksRings_50 : decode cX8_breaksRings 50 = .ok (.aload_n 0, 1) := by decide +kernel
theorem dX8_breaksRings_51 : decode cX8_breaksRings 51 = .ok (.getfield 70, 3) := by decide +kernel
theorem dX8_breaksRings_54 : decode cX8_breaksRings 54 = .ok (.iload_n 1, 1) := by decide +kernel
theorem dX8_breaksRings_55 : decode cX8_breaksRings 55 = .ok (.iconst (-1), 1) := by decide +kernel
theorem dX8_breaksRings_56 : decode cX8_breaksRings 56 = .ok (.iastore, 1) := by decide +kernel
theorem dX8_breaksRings_57 : decode cX8_breaksRings 57 = .ok (.aload_n 0, 1) := by decide +kernel
theorem dX8_breaksRings_58 : decode cX8_breaksRings 58 = .ok (.iconst 4, 1) := by decide +kernel
theorem dX8_breaksRings_59 : decode cX8_breaksRings 59 = .ok (.iload_n 1, 1) := by decide +kernel
theorem dX8_breaksRings_60 : decode cX8_breaksRings 60 = .ok (.invokevirtual 255, 3) := by decide +kernel
theorem dX8_breaksRings_63 : decode cX8_breaksRings 63 = .ok (.goto (-61), 3) := by decide +kernel
theorem dX8_breaksRings_66 : decode cX8_breaksRings 66 = .ok (.return_, 1) := by decide +kernel
theorem dX8_isHadByIgnored_0 : decode cX8_isHadByIgnored 0 = .ok (.iconst 0, 1) := by decide +kernel
theorem dX8_isHadByIgnored_1 : decode cX8_isHadByIgnored 1 = .ok (.istore_n 3, 1) := by decide +kernel
theorem dX8_isHadByIgnored_2 : decode cX8_isHadByIgnored 2 = .ok (.iload_n 3, 1) := by decide +kernel
theorem dX8_isHadByIgnored_3 : decode cX8_isHadByIgnored 3 = .ok (.aload_n 0, 1) := by decide +kernel
theorem dX8_isHadByIgnored_4 : decode cX8_isHadByIgnored 4 = .ok (.getfield 130, 3) := by decide +kernel
theorem dX8_isHadByIgnored_7 : decode cX8_isHadByIgnored 7 = .ok (.if_icmp .ge 73, 3) := by decide +kernel
theorem dX8_isHadByIgnored_10 : decode cX8_isHadByIgnored 10 = .ok (.iconst 0, 1) := by decide +kernel
theorem dX8_isHadByIgnored_11 : decode cX8_isHadByIgnored 11 = .ok (.istore 4, 2) := by decide +kernel
theorem dX8_isHadByIgnored_13 : decode cX8_isHadByIgnored 13 = .ok (.aload_n 0, 1) := by decide +kernel
theorem dX8_isHadByIgnored_14 : decode cX8_isHadByIgnored 14 = .ok (.getfield 55, 3) := by decide +kernel
theorem dX8_isHadByIgnored_17 : decode cX8_isHadByIgnored 17 = .ok (.iload_n 3, 1) := by decide +kernel
theorem dX8_isHadByIgnored_18 : decode cX8_isHadByIgnored 18 = .ok (.baload, 1) := by decide +kernel
theorem dX8_isHadByIgnored_19 : decode cX8_isHadByIgnored 19 = .ok (.ifCond .eq 55, 3) := by decide +kernel
theorem dX8_isHadByIgnored_22 : decode cX8_isHadByIgnored 22 = .ok (.iload 4, 2) := by decide +kernel
theorem dX8_isHadByIgnored_24 : decode cX8_isHadByIgnored 24 = .ok (.iconst 3, 1) := by decide +kernel
theorem dX8_isHadByIgnored_25 : decode cX8_isHadByIgnored 25 = .ok (.if_icmp .ge 49, 3) := by decide +kernel
theorem dX8_isHadByIgnored_28 : decode cX8_isHadByIgnored 28 = .ok (.aload_n 0, 1) := by decide +kernel
theorem dX8_isHadByIgnored_29 : decode cX8_isHadByIgnored 29 = .ok (.getfield 15, 3) := by decide +kernel
theorem dX8_isHadByIgnored_32 : decode cX8_isHadByIgnored 32 = .ok (.iload 4, 2) := by decide +kernel
theorem dX8_isHadByIgnored_34 : decode cX8_isHadByIgnored 34 = .ok (.aaload, 1) := by decide +kernel
theorem dX8_isHadByIgnored_35 : decode cX8_isHadByIgnored 35 = .ok (.iload_n 3, 1) := by decide +kernel
theorem dX8_isHadByIgnored_36 : decode cX8_isHadByIgnored 36 = .ok (.baload, 1) := by decide +kernel
theorem dX8_isHadByIgnored_37 : decode cX8_isHadByIgnored 37 = .ok (.ifCond .eq 31, 3) := by decide +kernel
theorem dX8_isHadByIgnored_40 : decode cX8_isHadByIgnored 40 = .ok (.aload_n 0, 1) := by decide +kernel
theorem dX8_isHadByIgnored_41 : decode cX8_isHadByIgnored 41 = .ok (.getfield 20, 3) := by decide +kernel
theorem dX8_isHadByIgnored_44 : decode cX8_isHadByIgnored 44 = .ok (.iload 4, 2) := by decide +kernel
theorem dX8_isHadByIgnored_46 : decode cX8_isHadByIgnored 46 = .ok (.aaload, 1) := by decide +kernel
theorem dX8_isHadByIgnored_47 : decode cX8_isHadByIgnored 47 = .ok (.iload_n 3, 1) := by decide +kernel
theorem dX8_isHadByIgnored_48 : decode cX8_isHadByIgnored 48 = .ok (.iaload, 1) := by decide +kernel
theorem dX8_isHadByIgnored_49 : decode cX8_isHadByIgnored 49 = .ok (.iload_n 1, 1) := by decide +kernel
theorem dX8_isHadByIgnored_50 : decode cX8_isHadByIgnored 50 = .ok (.if_icmp .ne 18, 3) := by decide +kernel
theorem dX8_isHadByIgnored_53 : decode cX8_isHadByIgnored 53 = .ok (.aload_n 0, 1) := by decide +kernel
theorem dX8_isHadByIgnored_54 : decode cX8_isHadByIgnored 54 = .ok (.getfield 23, 3) := by decide +kernel
theorem dX8_isHadByIgnored_57 : decode cX8_isHadByIgnored 57 = .ok (.iload 4, 2) := by decide +kernel
theorem dX8_isHadByIgnored_59 : decode cX8_isHadByIgnored 59 = .ok (.aaload, 1) := by decide +kernel
theorem dX8_isHadByIgnored_60 : decode cX8_isHadByIgnored 60 = .ok (.iload_n 3, 1) := by decide +kernel
theorem dX8_isHadByIgnored_61 : decode cX8_isHadByIgnored 61 = .ok (.iaload, 1) := by decide +kernel
theorem dX8_isHadByIgnored_62 : decode cX8_isHadByIgnored 62 = .ok (.iload_n 2, 1) := by decide +kernel
theorem dX8_isHadByIgnored_63 : decode cX8_isHadByIgnored 63 = .ok (.if_icmp .ne 5, 3) := by decide +kernel
theorem dX8_isHadByIgnored_66 : decode cX8_isHadByIgnored 66 = .ok (.iconst 1, 1) := by decide +kernel
theorem dX8_isHadByIgnored_67 : decode cX8_isHadByIgnored 67 = .ok (.ireturn, 1) := by decide +kernel
theorem dX8_isHadByIgnored_68 : decode cX8_isHadByIgnored 68 = .ok (.iinc 4 1, 3) := by decide +kernel
theorem dX8_isHadByIgnored_71 : decode cX8_isHadByIgnored 71 = .ok (.goto (-58), 3) := by decide +kernel
theorem dX8_isHadByIgnored_74 : decode cX8_isHadByIgnored 74 = .ok (.iinc 3 1, 3) := by decide +kernel
theorem dX8_isHadByIgnored_77 : decode cX8_isHadByIgnored 77 = .ok (.goto (-75), 3) := by decide +kernel
theorem dX8_isHadByIgnored_80 : decode cX8_isHadByIgnored 80 = .ok (.iconst 0, 1) := by decide +kernel
theorem dX8_isHadByIgnored_81 : decode cX8_isHadByIgnored 81 = .ok (.ireturn, 1) := by decide +kernel
theorem dX8_isHad_0 : decode cX8_isHad 0 = .ok (.iconst 0, 1) := by decide +kernel
theorem dX8_isHad_1 : decode cX8_isHad 1 = .ok (.istore 4, 2) := by decide +kernel
theorem dX8_isHad_3 : decode cX8_isHad 3 = .ok (.iload 4, 2) := by decide +kernel
theorem dX8_isHad_5 : decode cX8_isHad 5 = .ok (.iload_n 3, 1) := by decide +kernel
theorem dX8_isHad_6 : decode cX8_isHad 6 = .ok (.if_icmp .ge 43, 3) := by decide +kernel
theorem dX8_isHad_9 : decode cX8_isHad 9 = .ok (.aload_n 0, 1) := by decide +kernel
theorem dX8_isHad_10 : decode cX8_isHad 10 = .ok (.getfield 64, 3) := by decide +kernel
theorem dX8_isHad_13 : decode cX8_isHad 13 = .ok (.iload 4, 2) := by decide +kernel
theorem dX8_isHad_15 : decode cX8_isHad 15 = .ok (.baload, 1) := by decide +kernel
theorem dX8_isHad_16 : decode cX8_isHad 16 = .ok (.ifCond .eq 27, 3) := by decide +kernel
theorem dX8_isHad_19 : decode cX8_isHad 19 = .ok (.aload_n 0, 1) := by decide +kernel
theorem dX8_isHad_20 : decode cX8_isHad 20 = .ok (.getfield 70, 3) := by decide +kernel
theorem dX8_isHad_23 : decode cX8_isHad 23 = .ok (.iload 4, 2) := by decide +kernel
theorem dX8_isHad_25 : decode cX8_isHad 25 = .ok (.iaload, 1) := by decide +kernel
theorem dX8_isHad_26 : decode cX8_isHad 26 = .ok (.iload_n 1, 1) := by decide +kernel
theorem dX8_isHad_27 : decode cX8_isHad 27 = .ok (.if_icmp .ne 16, 3) := by decide +kernel
theorem dX8_isHad_30 : decode cX8_isHad 30 = .ok (.aload_n 0, 1) := by decide +kernel
theorem dX8_isHad_31 : decode cX8_isHad 31 = .ok (.getfield 73, 3) := by decide +kernel
theorem dX8_isHad_34 : decode cX8_isHad 34 = .ok (.iload 4, 2) := by decide +kernel
theorem dX8_isHad_36 : decode cX8_isHad 36 = .ok (.iaload, 1) := by decide +kernel
theorem dX8_isHad_37 : decode cX8_isHad 37 = .ok (.iload_n 2, 1) := by decide +kernel
theorem dX8_isHad_38 : decode cX8_isHad 38 = .ok (.if_icmp .ne 5, 3) := by decide +kernel
theorem dX8_isHad_41 : decode cX8_isHad 41 = .ok (.iconst 1, 1) := by decide +kernel
theorem dX8_isHad_42 : decode cX8_isHad 42 = .ok (.ireturn, 1) := by decide +kernel
theorem dX8_isHad_43 : decode cX8_isHad 43 = .ok (.iinc 4 1, 3) := by decide +kernel
theorem dX8_isHad_46 : decode cX8_isHad 46 = .ok (.goto (-43), 3) := by decide +kernel
theorem dX8_isHad_49 : decode cX8_isHad 49 = .ok (.aload_n 0, 1) := by decide +kernel
theorem dX8_isHad_50 : decode cX8_isHad 50 = .ok (.iload_n 1, 1) := by decide +kernel
theorem dX8_isHad_51 : decode cX8_isHad 51 = .ok (.iload_n 2, 1) := by decide +kernel
theorem dX8_isHad_52 : decode cX8_isHad 52 = .ok (.invokevirtual 266, 3) := by decide +kernel
theorem dX8_isHad_55 : decode cX8_isHad 55 = .ok (.ireturn, 1) := by decide +kernel
theorem dX8_callsAnew_0 : decode cX8_callsAnew 0 = .ok (.aload_n 0, 1) := by decide +kernel
theorem dX8_callsAnew_1 : decode cX8_callsAnew 1 = .ok (.aload_n 0, 1) := by decide +kernel
theorem dX8_callsAnew_2 : decode cX8_callsAnew 2 = .ok (.getfield 70, 3) := by decide +kernel
theorem dX8_callsAnew_5 : decode cX8_callsAnew 5 = .ok (.iload_n 1, 1) := by decide +kernel
theorem dX8_callsAnew_6 : decode cX8_callsAnew 6 = .ok (.iaload, 1) := by decide +kernel
theorem dX8_callsAnew_7 : decode cX8_callsAnew 7 = .ok (.aload_n 0, 1) := by decide +kernel
theorem dX8_callsAnew_8 : decode cX8_callsAnew 8 = .ok (.getfield 73, 3) := by decide +kernel
theorem dX8_callsAnew_11 : decode cX8_callsAnew 11 = .ok (.iload_n 1, 1) := by decide +kernel
theorem dX8_callsAnew_12 : decode cX8_callsAnew 12 = .ok (.iaload, 1) := by decide +kernel
theorem dX8_callsAnew_13 : decode cX8_callsAnew 13 = .ok (.iload_n 1, 1) := by decide +kernel
theorem dX8_callsAnew_14 : decode cX8_callsAnew 14 = .ok (.invokevirtual 269, 3) := by decide +kernel
theorem dX8_callsAnew_17 : decode cX8_callsAnew 17 = .ok (.ifCond .ne 4, 3) := by decide +kernel
theorem dX8_callsAnew_20 : decode cX8_callsAnew 20 = .ok (.return_, 1) := by decide +kernel
theorem dX8_callsAnew_21 : decode cX8_callsAnew 21 = .ok (.iconst 0, 1) := by decide +kernel
theorem dX8_callsAnew_22 : decode cX8_callsAnew 22 = .ok (.istore_n 2, 1) := by decide +kernel
theorem dX8_callsAnew_23 : decode cX8_callsAnew 23 = .ok (.aload_n 0, 1) := by decide +kernel
theorem dX8_callsAnew_24 : decode cX8_callsAnew 24 = .ok (.aload_n 0, 1) := by decide +kernel
theorem dX8_callsAnew_25 : decode cX8_callsAnew 25 = .ok (.getfield 70, 3) := by decide +kernel
theorem dX8_callsAnew_28 : decode cX8_callsAnew 28 = .ok (.iload_n 1, 1) := by decide +kernel
theorem dX8_callsAnew_29 : decode cX8_callsAnew 29 = .ok (.iaload, 1) := by decide +kernel
theorem dX8_callsAnew_30 : decode cX8_callsAnew 30 = .ok (.iload_n 2, 1) := by decide +kernel
theorem dX8_callsAnew_31 : decode cX8_callsAnew 31 = .ok (.aload_n 0, 1) := by decide +kernel
theorem dX8_callsAnew_32 : decode cX8_callsAnew 32 = .ok (.getfield 260, 3) := by decide +kernel
theorem dX8_callsAnew_35 : decode cX8_callsAnew 35 = .ok (.invokevirtual 269, 3) := by decide +kernel
theorem dX8_callsAnew_38 : decode cX8_callsAnew 38 = .ok (.ifCond .eq 9, 3) := by decide +kernel
theorem dX8_callsAnew_41 : decode cX8_callsAnew 41 = .ok (.iinc 2 1, 3) := by decide +kernel
theorem dX8_callsAnew_44 : decode cX8_callsAnew 44 = .ok (.goto (-21), 3) := by decide +kernel
theorem dX8_callsAnew_47 : decode cX8_callsAnew 47 = .ok (.aload_n 0, 1) := by decide +kernel
theorem dX8_callsAnew_48 : decode cX8_callsAnew 48 = .ok (.getfield 73, 3) := by decide +kernel
theorem dX8_callsAnew_51 : decode cX8_callsAnew 51 = .ok (.iload_n 1, 1) := by decide +kernel
theorem dX8_callsAnew_52 : decode cX8_callsAnew 52 = .ok (.iload_n 2, 1) := by decide +kernel
theorem dX8_callsAnew_53 : decode cX8_callsAnew 53 = .ok (.iastore, 1) := by decide +kernel
theorem dX8_callsAnew_54 : decode cX8_callsAnew 54 = .ok (.aload_n 0, 1) := by decide +kernel
theorem dX8_callsAnew_55 : decode cX8_callsAnew 55 = .ok (.iconst 3, 1) := by decide +kernel
theorem dX8_callsAnew_56 : decode cX8_callsAnew 56 = .ok (.iload_n 1, 1) := by decide +kernel
theorem dX8_callsAnew_57 : decode cX8_callsAnew 57 = .ok (.invokevirtual 255, 3) := by decide +kernel
theorem dX8_callsAnew_60 : decode cX8_callsAnew 60 = .ok (.return_, 1) := by decide +kernel
theorem dX8_tellTarget_0 : decode cX8_tellTarget 0 = .ok (.aload_n 0, 1) := by decide +kernel
theorem dX8_tellTarget_1 : decode cX8_tellTarget 1 = .ok (.iconst 0, 1) := by decide +kernel
theorem dX8_tellTarget_2 : decode cX8_tellTarget 2 = .ok (.putfield 249, 3) := by decide +kernel
theorem dX8_tellTarget_5 : decode cX8_tellTarget 5 = .ok (.aload_n 0, 1) := by decide +kernel
theorem dX8_tellTarget_6 : decode cX8_tellTarget 6 = .ok (.aload_n 0, 1) := by decide +kernel
theorem dX8_tellTarget_7 : decode cX8_tellTarget 7 = .ok (.getfield 130, 3) := by decide +kernel
theorem dX8_tellTarget_10 : decode cX8_tellTarget 10 = .ok (.putfield 260, 3) := by decide +kernel
theorem dX8_tellTarget_13 : decode cX8_tellTarget 13 = .ok (.aload_n 0, 1) := by decide +kernel
theorem dX8_tellTarget_14 : decode cX8_tellTarget 14 = .ok (.getfield 130, 3) := by decide +kernel
theorem dX8_tellTarget_17 : decode cX8_tellTarget 17 = .ok (.istore_n 2, 1) := by decide +kernel
theorem dX8_tellTarget_18 : decode cX8_tellTarget 18 = .ok (.iload_n 2, 1) := by decide +kernel
theorem dX8_tellTarget_19 : decode cX8_tellTarget 19 = .ok (.bipush 30, 2) := by decide +kernel
theorem dX8_tellTarget_21 : decode cX8_tellTarget 21 = .ok (.if_icmp .ge 16, 3) := by decide +kernel
theorem dX8_tellTarget_24 : decode cX8_tellTarget 24 = .ok (.aload_n 0, 1) := by decide +kernel
theorem dX8_tellTarget_25 : decode cX8_tellTarget 25 = .ok (.getfield 64, 3) := by decide +kernel
theorem dX8_tellTarget_28 : decode cX8_tellTarget 28 = .ok (.iload_n 2, 1) := by decide +kernel
theorem dX8_tellTarget_29 : decode cX8_tellTarget 29 = .ok (.iconst 0, 1) := by decide +kernel
theorem dX8_tellTarget_30 : decode cX8_tellTarget 30 = .ok (.bastore, 1) := by decide +kernel
theorem dX8_tellTarget_31 : decode cX8_tellTarget 31 = .ok (.iinc 2 1, 3) := by decide +kernel
theorem dX8_tellTarget_34 : decode cX8_tellTarget 34 = .ok (.goto (-16), 3) := by decide +kernel
theorem dX8_tellTarget_37 : decode cX8_tellTarget 37 = .ok (.aload_n 0, 1) := by decide +kernel
theorem dX8_tellTarget_38 : decode cX8_tellTarget 38 = .ok (.invokevirtual 196, 3) := by decide +kernel
theorem dX8_tellTarget_41 : decode cX8_tellTarget 41 = .ok (.iconst 0, 1) := by decide +kernel
theorem dX8_tellTarget_42 : decode cX8_tellTarget 42 = .ok (.istore_n 2, 1) := by decide +kernel
theorem dX8_tellTarget_43 : decode cX8_tellTarget 43 = .ok (.iload_n 2, 1) := by decide +kernel
theorem dX8_tellTarget_44 : decode cX8_tellTarget 44 = .ok (.aload_n 0, 1) := by decide +kernel
theorem dX8_tellTarget_45 : decode cX8_tellTarget 45 = .ok (.getfield 130, 3) := by decide +kernel
theorem dX8_tellTarget_48 : decode cX8_tellTarget 48 = .ok (.if_icmp .ge 14, 3) := by decide +kernel
theorem dX8_tellTarget_51 : decode cX8_tellTarget 51 = .ok (.aload_n 0, 1) := by decide +kernel
theorem dX8_tellTarget_52 : decode cX8_tellTarget 52 = .ok (.iload_n 2, 1) := by decide +kernel
theorem dX8_tellTarget_53 : decode cX8_tellTarget 53 = .ok (.invokevirtual 272, 3) := by decide +kernel
theorem dX8_tellTarget_56 : decode cX8_tellTarget 56 = .ok (.iinc 2 1, 3) := by decide +kernel
theorem dX8_tellTarget_59 : decode cX8_tellTarget 59 = .ok (.goto (-16), 3) := by decide +kernel
theorem dX8_tellTarget_62 : decode cX8_tellTarget 62 = .ok (.iconst 0, 1) := by decide +kernel
theorem dX8_tellTarget_63 : decode cX8_tellTarget 63 = .ok (.istore_n 2, 1) := by decide +kernel
theorem dX8_tellTarget_64 : decode cX8_tellTarget 64 = .ok (.iload_n 2, 1) := by decide +kernel
theorem dX8_tellTarget_65 : decode cX8_tellTarget 65 = .ok (.aload_n 0, 1) := by decide +kernel
theorem dX8_tellTarget_66 : decode cX8_tellTarget 66 = .ok (.getfield 130, 3) := by decide +kernel
theorem dX8_tellTarget_69 : decode cX8_tellTarget 69 = .ok (.if_icmp .ge 24, 3) := by decide +kernel
theorem dX8_tellTarget_72 : decode cX8_tellTarget 72 = .ok (.aload_n 0, 1) := by decide +kernel
theorem dX8_tellTarget_73 : decode cX8_tellTarget 73 = .ok (.getfield 64, 3) := by decide +kernel
theorem dX8_tellTarget_76 : decode cX8_tellTarget 76 = .ok (.iload_n 2, 1) := by decide +kernel
theorem dX8_tellTarget_77 : decode cX8_tellTarget 77 = .ok (.baload, 1) := by decide +kernel
theorem dX8_tellTarget_78 : decode cX8_tellTarget 78 = .ok (.ifCond .eq 9, 3) := by decide +kernel
theorem dX8_tellTarget_81 : decode cX8_tellTarget 81 = .ok (.aload_n 0, 1) := by decide +kernel
theorem dX8_tellTarget_82 : decode cX8_tellTarget 82 = .ok (.iload_n 2, 1) := by decide +kernel
theorem dX8_tellTarget_83 : decode cX8_tellTarget 83 = .ok (.iload_n 1, 1) := by decide +kernel
theorem dX8_tellTarget_84 : decode cX8_tellTarget 84 = .ok (.invokevirtual 276, 3) := by decide +kernel
theorem dX8_tellTarget_87 : decode cX8_tellTarget 87 = .ok (.iinc 2 1, 3) := by decide +kernel
theorem dX8_tellTarget_90 : decode cX8_tellTarget 90 = .ok (.goto (-26), 3) := by decide +kernel
theorem dX8_tellTarget_93 : decode cX8_tellTarget 93 = .ok (.iconst 0, 1) := by decide +kernel
theorem dX8_tellTarget_94 : decode cX8_tellTarget 94 = .ok (.istore_n 2, 1) := by decide +kernel
theorem dX8_tellTarget_95 : decode cX8_tellTarget 95 = .ok (.iload_n 2, 1) := by decide +kernel
theorem dX8_tellTarget_96 : decode cX8_tellTarget 96 = .ok (.aload_n 0, 1) := by decide +kernel
theorem dX8_tellTarget_97 : decode cX8_tellTarget 97 = .ok (.getfield 130, 3) := by decide +kernel
theorem dX8_tellTarget_100 : decode cX8_tellTarget 100 = .ok (.if_icmp .ge 24, 3) := by decide +kernel
theorem dX8_tellTarget_103 : decode cX8_tellTarget 103 = .ok (.aload_n 0, 1) := by decide +kernel
theorem dX8_tellTarget_104 : decode cX8_tellTarget 104 = .ok (.getfield 64, 3) := by decide +kernel
theorem dX8_tellTarget_107 : decode cX8_tellTarget 107 = .ok (.iload_n 2, 1) := by decide +kernel
theorem dX8_tellTarget_108 : decode cX8_tellTarget 108 = .ok (.baload, 1) := by decide +kernel
theorem dX8_tellTarget_109 : decode cX8_tellTarget 109 = .ok (.ifCond .eq 9, 3) := by decide +kernel
theorem dX8_tellTarget_112 : decode cX8_tellTarget 112 = .ok (.aload_n 0, 1) := by decide +kernel
theorem dX8_tellTarget_113 : decode cX8_tellTarget 113 = .ok (.iload_n 2, 1) := by decide +kernel
theorem dX8_tellTarget_114 : decode cX8_tellTarget 114 = .ok (.iload_n 1, 1) := by decide +kernel
theorem dX8_tellTarget_115 : decode cX8_tellTarget 115 = .ok (.invokevirtual 279, 3) := by decide +kernel
theorem dX8_tellTarget_118 : decode cX8_tellTarget 118 = .ok (.iinc 2 1, 3) := by decide +kernel
theorem dX8_tellTarget_121 : decode cX8_tellTarget 121 = .ok (.goto (-26), 3) := by decide +kernel
theorem dX8_tellTarget_124 : decode cX8_tellTarget 124 = .ok (.aload_n 0, 1) := by decide +kernel
theorem dX8_tellTarget_125 : decode cX8_tellTarget 125 = .ok (.invokevirtual 282, 3) := by decide +kernel
theorem dX8_tellTarget_128 : decode cX8_tellTarget 128 = .ok (.iconst 0, 1) := by decide +kernel
theorem dX8_tellTarget_129 : decode cX8_tellTarget 129 = .ok (.istore_n 2, 1) := by decide +kernel
theorem dX8_tellTarget_130 : decode cX8_tellTarget 130 = .ok (.iload_n 2, 1) := by decide +kernel
theorem dX8_tellTarget_131 : decode cX8_tellTarget 131 = .ok (.aload_n 0, 1) := by decide +kernel
theorem dX8_tellTarget_132 : decode cX8_tellTarget 132 = .ok (.getfield 260, 3) := by decide +kernel
theorem dX8_tellTarget_135 : decode cX8_tellTarget 135 = .ok (.if_icmp .ge 23, 3) := by decide +kernel
theorem dX8_tellTarget_138 : decode cX8_tellTarget 138 = .ok (.aload_n 0, 1) := by decide +kernel
theorem dX8_tellTarget_139 : decode cX8_tellTarget 139 = .ok (.getfield 64, 3) := by decide +kernel
theorem dX8_tellTarget_142 : decode cX8_tellTarget 142 = .ok (.iload_n 2, 1) := by decide +kernel
theorem dX8_tellTarget_143 : decode cX8_tellTarget 143 = .ok (.baload, 1) := by decide +kernel
theorem dX8_tellTarget_144 : decode cX8_tellTarget 144 = .ok (.ifCond .eq 8, 3) := by decide +kernel
theorem dX8_tellTarget_147 : decode cX8_tellTarget 147 = .ok (.aload_n 0, 1) := by decide +kernel
theorem dX8_tellTarget_148 : decode cX8_tellTarget 148 = .ok (.iload_n 2, 1) := by decide +kernel
theorem dX8_tellTarget_149 : decode cX8_tellTarget 149 = .ok (.invokevirtual 285, 3) := by decide +kernel
theorem dX8_tellTarget_152 : decode cX8_tellTarget 152 = .ok (.iinc 2 1, 3) := by decide +kernel
theorem dX8_tellTarget_155 : decode cX8_tellTarget 155 = .ok (.goto (-25), 3) := by decide +kernel
theorem dX8_tellTarget_158 : decode cX8_tellTarget 158 = .ok (.return_, 1) := by decide +kernel
theorem dX8_willDeep_0 : decode cX8_willDeep 0 = .ok (.iconst 0, 1) := by decide +kernel
theorem dX8_willDeep_1 : decode cX8_willDeep 1 = .ok (.istore_n 2, 1) := by decide +kernel
theorem dX8_willDeep_2 : decode cX8_willDeep 2 = .ok (.aload_n 0, 1) := by decide +kernel
theorem dX8_willDeep_3 : decode cX8_willDeep 3 = .ok (.getfield 70, 3) := by decide +kernel
theorem dX8_willDeep_6 : decode cX8_willDeep 6 = .ok (.iload_n 1, 1) := by decide +kernel
theorem dX8_willDeep_7 : decode cX8_willDeep 7 = .ok (.iaload, 1) := by decide +kernel
theorem dX8_willDeep_8 : decode cX8_willDeep 8 = .ok (.istore_n 3, 1) := by decide +kernel
theorem dX8_willDeep_9 : decode cX8_willDeep 9 = .ok (.iload_n 3, 1) := by decide +kernel
theorem dX8_willDeep_10 : decode cX8_willDeep 10 = .ok (.iconst (-1), 1) := by decide +kernel
theorem dX8_willDeep_11 : decode cX8_willDeep 11 = .ok (.if_icmp .eq 16, 3) := by decide +kernel
theorem dX8_willDeep_14 : decode cX8_willDeep 14 = .ok (.iinc 2 1, 3) := by decide +kernel
theorem dX8_willDeep_17 : decode cX8_willDeep 17 = .ok (.aload_n 0, 1) := by decide +kernel
theorem dX8_willDeep_18 : decode cX8_willDeep 18 = .ok (.getfield 70, 3) := by decide +kernel
theorem dX8_willDeep_21 : decode cX8_willDeep 21 = .ok (.iload_n 3, 1) := by decide +kernel
theorem dX8_willDeep_22 : decode cX8_willDeep 22 = .ok (.iaload, 1) := by decide +kernel
theorem dX8_willDeep_23 : decode cX8_willDeep 23 = .ok (.istore_n 3, 1) := by decide +kernel
theorem dX8_willDeep_24 : decode cX8_willDeep 24 = .ok (.goto (-15), 3) := by decide +kernel
theorem dX8_willDeep_27 : decode cX8_willDeep 27 = .ok (.iload_n 2, 1) := by decide +kernel
theorem dX8_willDeep_28 : decode cX8_willDeep 28 = .ok (.ireturn, 1) := by decide +kernel
theorem dX8_prefer_0 : decode cX8_prefer 0 = .ok (.iload_n 1, 1) := by decide +kernel
theorem dX8_prefer_1 : decode cX8_prefer 1 = .ok (.invokestatic 151, 3) := by decide +kernel
theorem dX8_prefer_4 : decode cX8_prefer 4 = .ok (.ifCond .ne 6, 3) := by decide +kernel
theorem dX8_prefer_7 : decode cX8_prefer 7 = .ok (.bipush (-2), 2) := by decide +kernel
theorem dX8_prefer_9 : decode cX8_prefer 9 = .ok (.ireturn, 1) := by decide +kernel
theorem dX8_prefer_10 : decode cX8_prefer 10 = .ok (.aload_n 0, 1) := by decide +kernel
theorem dX8_prefer_11 : decode cX8_prefer 11 = .ok (.getfield 288, 3) := by decide +kernel
theorem dX8_prefer_14 : decode cX8_prefer 14 = .ok (.istore_n 2, 1) := by decide +kernel
theorem dX8_prefer_15 : decode cX8_prefer 15 = .ok (.aload_n 0, 1) := by decide +kernel
theorem dX8_prefer_16 : decode cX8_prefer 16 = .ok (.iload_n 1, 1) := by decide +kernel
theorem dX8_prefer_17 : decode cX8_prefer 17 = .ok (.putfield 288, 3) := by decide +kernel
theorem dX8_prefer_20 : decode cX8_prefer 20 = .ok (.iload_n 2, 1) := by decide +kernel
theorem dX8_prefer_21 : decode cX8_prefer 21 = .ok (.ireturn, 1) := by decide +kernel
theorem dX8_target_0 : decode cX8_target 0 = .ok (.iload_n 1, 1) := by decide +kernel
theorem dX8_target_1 : decode cX8_target 1 = .ok (.iconst 0, 1) := by decide +kernel
theorem dX8_target_2 : decode cX8_target 2 = .ok (.bipush 29, 2) := by decide +kernel
theorem dX8_target_4 : decode cX8_target 4 = .ok (.invokestatic 133, 3) := by decide +kernel
theorem dX8_target_7 : decode cX8_target 7 = .ok (.ifCond .eq 12, 3) := by decide +kernel
theorem dX8_target_10 : decode cX8_target 10 = .ok (.iload_n 2, 1) := by decide +kernel
theorem dX8_target_11 : decode cX8_target 11 = .ok (.iconst 0, 1) := by decide +kernel
theorem dX8_target_12 : decode cX8_target 12 = .ok (.iconst 3, 1) := by decide +kernel
theorem dX8_target_13 : decode cX8_target 13 = .ok (.invokestatic 133, 3) := by decide +kernel
theorem dX8_target_16 : decode cX8_target 16 = .ok (.ifCond .ne 6, 3) := by decide +kernel
theorem dX8_target_19 : decode cX8_target 19 = .ok (.bipush (-2), 2) := by decide +kernel
theorem dX8_target_21 : decode cX8_target 21 = .ok (.ireturn, 1) := by decide +kernel
theorem dX8_target_22 : decode cX8_target 22 = .ok (.aload_n 0, 1) := by decide +kernel
theorem dX8_target_23 : decode cX8_target 23 = .ok (.aload_n 0, 1) := by decide +kernel
theorem dX8_target_24 : decode cX8_target 24 = .ok (.getfield 288, 3) := by decide +kernel
theorem dX8_target_27 : decode cX8_target 27 = .ok (.invokevirtual 291, 3) := by decide +kernel
theorem dX8_target_30 : decode cX8_target 30 = .ok (.aload_n 0, 1) := by decide +kernel
theorem dX8_target_31 : decode cX8_target 31 = .ok (.getfield 64, 3) := by decide +kernel
theorem dX8_target_34 : decode cX8_target 34 = .ok (.iload_n 1, 1) := by decide +kernel
theorem dX8_target_35 : decode cX8_target 35 = .ok (.baload, 1) := by decide +kernel
theorem dX8_target_36 : decode cX8_target 36 = .ok (.ifCond .ne 5, 3) := by decide +kernel
theorem dX8_target_39 : decode cX8_target 39 = .ok (.iconst (-1), 1) := by decide +kernel
theorem dX8_target_40 : decode cX8_target 40 = .ok (.ireturn, 1) := by decide +kernel
theorem dX8_target_41 : decode cX8_target 41 = .ok (.iload_n 2, 1) := by decide +kernel
theorem dX8_target_42 : decode cX8_target 42 = .ok (.ifCond .ne 12, 3) := by decide +kernel
theorem dX8_target_45 : decode cX8_target 45 = .ok (.aload_n 0, 1) := by decide +kernel
theorem dX8_target_46 : decode cX8_target 46 = .ok (.getfield 70, 3) := by decide +kernel
theorem dX8_target_49 : decode cX8_target 49 = .ok (.iload_n 1, 1) := by decide +kernel
theorem dX8_target_50 : decode cX8_target 50 = .ok (.iaload, 1) := by decide +kernel
theorem dX8_target_51 : decode cX8_target 51 = .ok (.goto 36, 3) := by decide +kernel
theorem dX8_target_54 : decode cX8_target 54 = .ok (.iload_n 2, 1) := by decide +kernel
theorem dX8_target_55 : decode cX8_target 55 = .ok (.iconst 1, 1) := by decide +kernel
theorem dX8_target_56 : decode cX8_target 56 = .ok (.if_icmp .ne 12, 3) := by decide +kernel
theorem dX8_target_59 : decode cX8_target 59 = .ok (.aload_n 0, 1) := by decide +kernel
theorem dX8_target_60 : decode cX8_target 60 = .ok (.getfield 73, 3) := by decide +kernel
theorem dX8_target_63 : decode cX8_target 63 = .ok (.iload_n 1, 1) := by decide +kernel
theorem dX8_target_64 : decode cX8_target 64 = .ok (.iaload, 1) := by decide +kernel
theorem dX8_target_65 : decode cX8_target 65 = .ok (.goto 22, 3) := by decide +kernel
theorem dX8_target_68 : decode cX8_target 68 = .ok (.iload_n 2, 1) := by decide +kernel
theorem dX8_target_69 : decode cX8_target 69 = .ok (.iconst 2, 1) := by decide +kernel
theorem dX8_target_70 : decode cX8_target 70 = .ok (.if_icmp .ne 12, 3) := by decide +kernel
theorem dX8_target_73 : decode cX8_target 73 = .ok (.aload_n 0, 1) := by decide +kernel
theorem dX8_target_74 : decode cX8_target 74 = .ok (.getfield 76, 3) := by decide +kernel
theorem dX8_target_77 : decode cX8_target 77 = .ok (.iload_n 1, 1) := by decide +kernel
theorem dX8_target_78 : decode cX8_target 78 = .ok (.iaload, 1) := by decide +kernel
theorem dX8_target_79 : decode cX8_target 79 = .ok (.goto 8, 3) := by decide +kernel
theorem dX8_target_82 : decode cX8_target 82 = .ok (.aload_n 0, 1) := by decide +kernel
theorem dX8_target_83 : decode cX8_target 83 = .ok (.iload_n 1, 1) := by decide +kernel
theorem dX8_target_84 : decode cX8_target 84 = .ok (.invokevirtual 294, 3) := by decide +kernel
theorem dX8_target_87 : decode cX8_target 87 = .ok (.ireturn, 1) := by decide +kernel
theorem dX8_clash_0 : decode cX8_clash 0 = .ok (.iload_n 2, 1) := by decide +kernel
theorem dX8_clash_1 : decode cX8_clash 1 = .ok (.iconst 0, 1) := by decide +kernel
theorem dX8_clash_2 : decode cX8_clash 2 = .ok (.iconst 1, 1) := by decide +kernel
theorem dX8_clash_3 : decode cX8_clash 3 = .ok (.invokestatic 133, 3) := by decide +kernel
theorem dX8_clash_6 : decode cX8_clash 6 = .ok (.ifCond .ne 6, 3) := by decide +kernel
theorem dX8_clash_9 : decode cX8_clash 9 = .ok (.bipush (-2), 2) := by decide +kernel
theorem dX8_clash_11 : decode cX8_clash 11 = .ok (.ireturn, 1) := by decide +kernel
theorem dX8_clash_12 : decode cX8_clash 12 = .ok (.aload_n 0, 1) := by decide +kernel
theorem dX8_clash_13 : decode cX8_clash 13 = .ok (.aload_n 0, 1) := by decide +kernel
theorem dX8_clash_14 : decode cX8_clash 14 = .ok (.getfield 288, 3) := by decide +kernel
theorem dX8_clash_17 : decode cX8_clash 17 = .ok (.invokevirtual 291, 3) := by decide +kernel
theorem dX8_clash_20 : decode cX8_clash 20 = .ok (.iload_n 1, 1) := by decide +kernel
theorem dX8_clash_21 : decode cX8_clash 21 = .ok (.iconst 0, 1) := by decide +kernel
theorem dX8_clash_22 : decode cX8_clash 22 = .ok (.aload_n 0, 1) := by decide +kernel
theorem dX8_clash_23 : decode cX8_clash 23 = .ok (.getfield 249, 3) := by decide +kernel
theorem dX8_clash_26 : decode cX8_clash 26 = .ok (.iconst 1, 1) := by decide +kernel
theorem dX8_clash_27 : decode cX8_clash 27 = .ok (.isub, 1) := by decide +kernel
theorem dX8_clash_28 : decode cX8_clash 28 = .ok (.invokestatic 133, 3) := by decide +kernel
theorem dX8_clash_31 : decode cX8_clash 31 = .ok (.ifCond .ne 6, 3) := by decide +kernel
theorem dX8_clash_34 : decode cX8_clash 34 = .ok (.bipush (-12), 2) := by decide +kernel
theorem dX8_clash_36 : decode cX8_clash 36 = .ok (.ireturn, 1) := by decide +kernel
theorem dX8_clash_37 : decode cX8_clash 37 = .ok (.iload_n 2, 1) := by decide +kernel
theorem dX8_clash_38 : decode cX8_clash 38 = .ok (.ifCond .ne 12, 3) := by decide +kernel
theorem dX8_clash_41 : decode cX8_clash 41 = .ok (.aload_n 0, 1) := by decide +kernel
theorem dX8_clash_42 : decode cX8_clash 42 = .ok (.getfield 58, 3) := by decide +kernel
theorem dX8_clash_45 : decode cX8_clash 45 = .ok (.iload_n 1, 1) := by decide +kernel
theorem dX8_clash_46 : decode cX8_clash 46 = .ok (.iaload, 1) := by decide +kernel
theorem dX8_clash_47 : decode cX8_clash 47 = .ok (.goto 9, 3) := by decide +kernel
theorem dX8_clash_50 : decode cX8_clash 50 = .ok (.aload_n 0, 1) := by decide +kernel
theorem dX8_clash_51 : decode cX8_clash 51 = .ok (.getfield 61, 3) := by decide +kernel
theorem dX8_clash_54 : decode cX8_clash 54 = .ok (.iload_n 1, 1) := by decide +kernel
theorem dX8_clash_55 : decode cX8_clash 55 = .ok (.iaload, 1) := by decide +kernel
theorem dX8_clash_56 : decode cX8_clash 56 = .ok (.ireturn, 1) := by decide +kernel
theorem dX8_step_0 : decode cX8_step 0 = .ok (.aload_n 0, 1) := by decide +kernel
theorem dX8_step_1 : decode cX8_step 1 = .ok (.getfield 79, 3) := by decide +kernel
theorem dX8_step_4 : decode cX8_step 4 = .ok (.aload_n 0, 1) := by decide +kernel
theorem dX8_step_5 : decode cX8_step 5 = .ok (.getfield 297, 3) := by decide +kernel
theorem dX8_step_8 : decode cX8_step 8 = .ok (.iload_n 1, 1) := by decide +kernel
theorem dX8_step_9 : decode cX8_step 9 = .ok (.iastore, 1) := by decide +kernel
theorem dX8_step_10 : decode cX8_step 10 = .ok (.aload_n 0, 1) := by decide +kernel
theorem dX8_step_11 : decode cX8_step 11 = .ok (.getfield 82, 3) := by decide +kernel
theorem dX8_step_14 : decode cX8_step 14 = .ok (.aload_n 0, 1) := by decide +kernel
theorem dX8_step_15 : decode cX8_step 15 = .ok (.getfield 297, 3) := by decide +kernel
theorem dX8_step_18 : decode cX8_step 18 = .ok (.iload_n 2, 1) := by decide +kernel
theorem dX8_step_19 : decode cX8_step 19 = .ok (.iastore, 1) := by decide +kernel
theorem dX8_step_20 : decode cX8_step 20 = .ok (.aload_n 0, 1) := by decide +kernel
theorem dX8_step_21 : decode cX8_step 21 = .ok (.dup, 1) := by decide +kernel
theorem dX8_step_22 : decode cX8_step 22 = .ok (.getfield 297, 3) := by decide +kernel
theorem dX8_step_25 : decode cX8_step 25 = .ok (.iconst 1, 1) := by decide +kernel
theorem dX8_step_26 : decode cX8_step 26 = .ok (.iadd, 1) := by decide +kernel
theorem dX8_step_27 : decode cX8_step 27 = .ok (.putfield 297, 3) := by decide +kernel
theorem dX8_step_30 : decode cX8_step 30 = .ok (.return_, 1) := by decide +kernel
theorem dX8_isOn_0 : decode cX8_isOn 0 = .ok (.iload_n 2, 1) := by decide +kernel
theorem dX8_isOn_1 : decode cX8_isOn 1 = .ok (.aload_n 0, 1) := by decide +kernel
theorem dX8_isOn_2 : decode cX8_isOn 2 = .ok (.getfield 130, 3) := by decide +kernel
theorem dX8_isOn_5 : decode cX8_isOn 5 = .ok (.if_icmp .ge 27, 3) := by decide +kernel
theorem dX8_isOn_8 : decode cX8_isOn 8 = .ok (.aload_n 0, 1) := by decide +kernel
theorem dX8_isOn_9 : decode cX8_isOn 9 = .ok (.getfield 15, 3) := by decide +kernel
theorem dX8_isOn_12 : decode cX8_isOn 12 = .ok (.iload_n 1, 1) := by decide +kernel
theorem dX8_isOn_13 : decode cX8_isOn 13 = .ok (.aaload, 1) := by decide +kernel
theorem dX8_isOn_14 : decode cX8_isOn 14 = .ok (.iload_n 2, 1) := by decide +kernel
theorem dX8_isOn_15 : decode cX8_isOn 15 = .ok (.baload, 1) := by decide +kernel
theorem dX8_isOn_16 : decode cX8_isOn 16 = .ok (.ifCond .eq 16, 3) := by decide +kernel
theorem dX8_isOn_19 : decode cX8_isOn 19 = .ok (.aload_n 0, 1) := by decide +kernel
theorem dX8_isOn_20 : decode cX8_isOn 20 = .ok (.getfield 55, 3) := by decide +kernel
theorem dX8_isOn_23 : decode cX8_isOn 23 = .ok (.iload_n 2, 1) := by decide +kernel
theorem dX8_isOn_24 : decode cX8_isOn 24 = .ok (.baload, 1) := by decide +kernel
theorem dX8_isOn_25 : decode cX8_isOn 25 = .ok (.ifCond .ne 7, 3) := by decide +kernel
theorem dX8_isOn_28 : decode cX8_isOn 28 = .ok (.iconst 1, 1) := by decide +kernel
theorem dX8_isOn_29 : decode cX8_isOn 29 = .ok (.goto 4, 3) := by decide +kernel
theorem dX8_isOn_32 : decode cX8_isOn 32 = .ok (.iconst 0, 1) := by decide +kernel
theorem dX8_isOn_33 : decode cX8_isOn 33 = .ok (.ireturn, 1) := by decide +kernel
theorem dX8_isAside_0 : decode cX8_isAside 0 = .ok (.aload_n 0, 1) := by decide +kernel
theorem dX8_isAside_1 : decode cX8_isAside 1 = .ok (.iload_n 1, 1) := by decide +kernel
theorem dX8_isAside_2 : decode cX8_isAside 2 = .ok (.iload_n 2, 1) := by decide +kernel
theorem dX8_isAside_3 : decode cX8_isAside 3 = .ok (.invokevirtual 300, 3) := by decide +kernel
theorem dX8_isAside_6 : decode cX8_isAside 6 = .ok (.ifCond .eq 50, 3) := by decide +kernel
theorem dX8_isAside_9 : decode cX8_isAside 9 = .ok (.aload_n 0, 1) := by decide +kernel
theorem dX8_isAside_10 : decode cX8_isAside 10 = .ok (.getfield 64, 3) := by decide +kernel
theorem dX8_isAside_13 : decode cX8_isAside 13 = .ok (.iload_n 2, 1) := by decide +kernel
theorem dX8_isAside_14 : decode cX8_isAside 14 = .ok (.baload, 1) := by decide +kernel
theorem dX8_isAside_15 : decode cX8_isAside 15 = .ok (.ifCond .eq 37, 3) := by decide +kernel
theorem dX8_isAside_18 : decode cX8_isAside 18 = .ok (.aload_n 0, 1) := by decide +kernel
theorem dX8_isAside_19 : decode cX8_isAside 19 = .ok (.getfield 20, 3) := by decide +kernel
theorem dX8_isAside_22 : decode cX8_isAside 22 = .ok (.iload_n 1, 1) := by decide +kernel
theorem dX8_isAside_23 : decode cX8_isAside 23 = .ok (.aaload, 1) := by decide +kernel
theorem dX8_isAside_24 : decode cX8_isAside 24 = .ok (.iload_n 2, 1) := by decide +kernel
theorem dX8_isAside_25 : decode cX8_isAside 25 = .ok (.iaload, 1) := by decide +kernel
theorem dX8_isAside_26 : decode cX8_isAside 26 = .ok (.aload_n 0, 1) := by decide +kernel
theorem dX8_isAside_27 : decode cX8_isAside 27 = .ok (.getfield 70, 3) := by decide +kernel
theorem dX8_isAside_30 : decode cX8_isAside 30 = .ok (.iload_n 2, 1) := by decide +kernel
theorem dX8_isAside_31 : decode cX8_isAside 31 = .ok (.iaload, 1) := by decide +kernel
theorem dX8_isAside_32 : decode cX8_isAside 32 = .ok (.if_icmp .ne 20, 3) := by decide +kernel
theorem dX8_isAside_35 : decode cX8_isAside 35 = .ok (.aload_n 0, 1) := by decide +kernel
theorem dX8_isAside_36 : decode cX8_isAside 36 = .ok (.getfield 23, 3) := by decide +kernel
theorem dX8_isAside_39 : decode cX8_isAside 39 = .ok (.iload_n 1, 1) := by decide +kernel
theorem dX8_isAside_40 : decode cX8_isAside 40 = .ok (.aaload, 1) := by decide +kernel
theorem dX8_isAside_41 : decode cX8_isAside 41 = .ok (.iload_n 2, 1) := by decide +kernel
theorem dX8_isAside_42 : decode cX8_isAside 42 = .ok (.iaload, 1) := by decide +kernel
theorem dX8_isAside_43 : decode cX8_isAside 43 = .ok (.aload_n 0, 1) := by decide +kernel
theorem dX8_isAside_44 : decode cX8_isAside 44 = .ok (.getfield 73, 3) := by decide +kernel
theorem dX8_isAside_47 : decode cX8_isAside 47 = .ok (.iload_n 2, 1) := by decide +kernel
theorem dX8_isAside_48 : decode cX8_isAside 48 = .ok (.iaload, 1) := by decide +kernel
theorem dX8_isAside_49 : decode cX8_isAside 49 = .ok (.if_icmp .eq 7, 3) := by decide +kernel
theorem dX8_isAside_52 : decode cX8_isAside 52 = .ok (.iconst 1, 1) := by decide +kernel
theorem dX8_isAside_53 : decode cX8_isAside 53 = .ok (.goto 4, 3) := by decide +kernel
theorem dX8_isAside_56 : decode cX8_isAside 56 = .ok (.iconst 0, 1) := by decide +kernel
theorem dX8_isAside_57 : decode cX8_isAside 57 = .ok (.ireturn, 1) := by decide +kernel
theorem dX8_tellPlan_0 : decode cX8_tellPlan 0 = .ok (.aload_n 0, 1) := by decide +kernel
theorem dX8_tellPlan_1 : decode cX8_tellPlan 1 = .ok (.iconst 0, 1) := by decide +kernel
theorem dX8_tellPlan_2 : decode cX8_tellPlan 2 = .ok (.putfield 297, 3) := by decide +kernel
theorem dX8_tellPlan_5 : decode cX8_tellPlan 5 = .ok (.iconst 0, 1) := by decide +kernel
theorem dX8_tellPlan_6 : decode cX8_tellPlan 6 = .ok (.istore_n 2, 1) := by decide +kernel
theorem dX8_tellPlan_7 : decode cX8_tellPlan 7 = .ok (.iload_n 2, 1) := by decide +kernel
theorem dX8_tellPlan_8 : decode cX8_tellPlan 8 = .ok (.aload_n 0, 1) := by decide +kernel
theorem dX8_tellPlan_9 : decode cX8_tellPlan 9 = .ok (.getfield 130, 3) := by decide +kernel
theorem dX8_tellPlan_12 : decode cX8_tellPlan 12 = .ok (.if_icmp .ge 24, 3) := by decide +kernel
theorem dX8_tellPlan_15 : decode cX8_tellPlan 15 = .ok (.aload_n 0, 1) := by decide +kernel
theorem dX8_tellPlan_16 : decode cX8_tellPlan 16 = .ok (.iload_n 1, 1) := by decide +kernel
theorem dX8_tellPlan_17 : decode cX8_tellPlan 17 = .ok (.iload_n 2, 1) := by decide +kernel
theorem dX8_tellPlan_18 : decode cX8_tellPlan 18 = .ok (.invokevirtual 303, 3) := by decide +kernel
theorem dX8_tellPlan_21 : decode cX8_tellPlan 21 = .ok (.ifCond .eq 9, 3) := by decide +kernel
theorem dX8_tellPlan_24 : decode cX8_tellPlan 24 = .ok (.aload_n 0, 1) := by decide +kernel
theorem dX8_tellPlan_25 : decode cX8_tellPlan 25 = .ok (.iconst 0, 1) := by decide +kernel
theorem dX8_tellPlan_26 : decode cX8_tellPlan 26 = .ok (.iload_n 2, 1) := by decide +kernel
theorem dX8_tellPlan_27 : decode cX8_tellPlan 27 = .ok (.invokevirtual 306, 3) := by decide +kernel
theorem dX8_tellPlan_30 : decode cX8_tellPlan 30 = .ok (.iinc 2 1, 3) := by decide +kernel
theorem dX8_tellPlan_33 : decode cX8_tellPlan 33 = .ok (.goto (-26), 3) := by decide +kernel
theorem dX8_tellPlan_36 : decode cX8_tellPlan 36 = .ok (.iconst 0, 1) := by decide +kernel
theorem dX8_tellPlan_37 : decode cX8_tellPlan 37 = .ok (.istore_n 2, 1) := by decide +kernel
theorem dX8_tellPlan_38 : decode cX8_tellPlan 38 = .ok (.iload_n 2, 1) := by decide +kernel
theorem dX8_tellPlan_39 : decode cX8_tellPlan 39 = .ok (.bipush 30, 2) := by decide +kernel
theorem dX8_tellPlan_41 : decode cX8_tellPlan 41 = .ok (.if_icmp .gt 79, 3) := by decide +kernel
theorem dX8_tellPlan_44 : decode cX8_tellPlan 44 = .ok (.iconst 0, 1) := by decide +kernel
theorem dX8_tellPlan_45 : decode cX8_tellPlan 45 = .ok (.istore_n 3, 1) := by decide +kernel
theorem dX8_tellPlan_46 : decode cX8_tellPlan 46 = .ok (.iload_n 3, 1) := by decide +kernel
theorem dX8_tellPlan_47 : decode cX8_tellPlan 47 = .ok (.aload_n 0, 1) := by decide +kernel
theorem dX8_tellPlan_48 : decode cX8_tellPlan 48 = .ok (.getfield 260, 3) := by decide +kernel
theorem dX8_tellPlan_51 : decode cX8_tellPlan 51 = .ok (.if_icmp .ge 63, 3) := by decide +kernel
theorem dX8_tellPlan_54 : decode cX8_tellPlan 54 = .ok (.aload_n 0, 1) := by decide +kernel
theorem dX8_tellPlan_55 : decode cX8_tellPlan 55 = .ok (.getfield 64, 3) := by decide +kernel
theorem dX8_tellPlan_58 : decode cX8_tellPlan 58 = .ok (.iload_n 3, 1) := by decide +kernel
theorem dX8_tellPlan_59 : decode cX8_tellPlan 59 = .ok (.baload, 1) := by decide +kernel
theorem dX8_tellPlan_60 : decode cX8_tellPlan 60 = .ok (.ifCond .eq 48, 3) := by decide +kernel
theorem dX8_tellPlan_63 : decode cX8_tellPlan 63 = .ok (.aload_n 0, 1) := by decide +kernel
theorem dX8_tellPlan_64 : decode cX8_tellPlan 64 = .ok (.iload_n 3, 1) := by decide +kernel
theorem dX8_tellPlan_65 : decode cX8_tellPlan 65 = .ok (.invokevirtual 294, 3) := by decide +kernel
theorem dX8_tellPlan_68 : decode cX8_tellPlan 68 = .ok (.iload_n 2, 1) := by decide +kernel
theorem dX8_tellPlan_69 : decode cX8_tellPlan 69 = .ok (.if_icmp .eq 6, 3) := by decide +kernel
theorem dX8_tellPlan_72 : decode cX8_tellPlan 72 = .ok (.goto 36, 3) := by decide +kernel
theorem dX8_tellPlan_75 : decode cX8_tellPlan 75 = .ok (.aload_n 0, 1) := by decide +kernel
theorem dX8_tellPlan_76 : decode cX8_tellPlan 76 = .ok (.iload_n 1, 1) := by decide +kernel
theorem dX8_tellPlan_77 : decode cX8_tellPlan 77 = .ok (.iload_n 3, 1) := by decide +kernel
theorem dX8_tellPlan_78 : decode cX8_tellPlan 78 = .ok (.invokevirtual 300, 3) := by decide +kernel
theorem dX8_tellPlan_81 : decode cX8_tellPlan 81 = .ok (.ifCond .ne 12, 3) := by decide +kernel
theorem dX8_tellPlan_84 : decode cX8_tellPlan 84 = .ok (.aload_n 0, 1) := by decide +kernel
theorem dX8_tellPlan_85 : decode cX8_tellPlan 85 = .ok (.iconst 1, 1) := by decide +kernel
theorem dX8_tellPlan_86 : decode cX8_tellPlan 86 = .ok (.iload_n 3, 1) := by decide +kernel
theorem dX8_tellPlan_87 : decode cX8_tellPlan 87 = .ok (.invokevirtual 306, 3) := by decide +kernel
theorem dX8_tellPlan_90 : decode cX8_tellPlan 90 = .ok (.goto 18, 3) := by decide +kernel
theorem dX8_tellPlan_93 : decode cX8_tellPlan 93 = .ok (.aload_n 0, 1) := by decide +kernel
theorem dX8_tellPlan_94 : decode cX8_tellPlan 94 = .ok (.iload_n 1, 1) := by decide +kernel
theorem dX8_tellPlan_95 : decode cX8_tellPlan 95 = .ok (.iload_n 3, 1) := by decide +kernel
theorem dX8_tellPlan_96 : decode cX8_tellPlan 96 = .ok (.invokevirtual 303, 3) := by decide +kernel
theorem dX8_tellPlan_99 : decode cX8_tellPlan 99 = .ok (.ifCond .eq 9, 3) := by decide +kernel
theorem dX8_tellPlan_102 : decode cX8_tellPlan 102 = .ok (.aload_n 0, 1) := by decide +kernel
theorem dX8_tellPlan_103 : decode cX8_tellPlan 103 = .ok (.iconst 2, 1) := by decide +kernel
theorem dX8_tellPlan_104 : decode cX8_tellPlan 104 = .ok (.iload_n 3, 1) := by decide +kernel
theorem dX8_tellPlan_105 : decode cX8_tellPlan 105 = .ok (.invokevirtual 306, 3) := by decide +kernel
theorem dX8_tellPlan_108 : decode cX8_tellPlan 108 = .ok (.iinc 3 1, 3) := by decide +kernel
theorem dX8_tellPlan_111 : decode cX8_tellPlan 111 = .ok (.goto (-65), 3) := by decide +kernel
theorem dX8_tellPlan_114 : decode cX8_tellPlan 114 = .ok (.iinc 2 1, 3) := by decide +kernel
theorem dX8_tellPlan_117 : decode cX8_tellPlan 117 = .ok (.goto (-79), 3) := by decide +kernel
theorem dX8_tellPlan_120 : decode cX8_tellPlan 120 = .ok (.iconst 0, 1) := by decide +kernel
theorem dX8_tellPlan_121 : decode cX8_tellPlan 121 = .ok (.istore_n 2, 1) := by decide +kernel
theorem dX8_tellPlan_122 : decode cX8_tellPlan 122 = .ok (.iload_n 2, 1) := by decide +kernel
theorem dX8_tellPlan_123 : decode cX8_tellPlan 123 = .ok (.aload_n 0, 1) := by decide +kernel
theorem dX8_tellPlan_124 : decode cX8_tellPlan 124 = .ok (.getfield 130, 3) := by decide +kernel
theorem dX8_tellPlan_127 : decode cX8_tellPlan 127 = .ok (.if_icmp .ge 50, 3) := by decide +kernel
theorem dX8_tellPlan_130 : decode cX8_tellPlan 130 = .ok (.aload_n 0, 1) := by decide +kernel
theorem dX8_tellPlan_131 : decode cX8_tellPlan 131 = .ok (.getfield 64, 3) := by decide +kernel
theorem dX8_tellPlan_134 : decode cX8_tellPlan 134 = .ok (.iload_n 2, 1) := by decide +kernel
theorem dX8_tellPlan_135 : decode cX8_tellPlan 135 = .ok (.baload, 1) := by decide +kernel
theorem dX8_tellPlan_136 : decode cX8_tellPlan 136 = .ok (.ifCond .eq 35, 3) := by decide +kernel
theorem dX8_tellPlan_139 : decode cX8_tellPlan 139 = .ok (.aload_n 0, 1) := by decide +kernel
theorem dX8_tellPlan_140 : decode cX8_tellPlan 140 = .ok (.iload_n 1, 1) := by decide +kernel
theorem dX8_tellPlan_141 : decode cX8_tellPlan 141 = .ok (.iload_n 2, 1) := by decide +kernel
theorem dX8_tellPlan_142 : decode cX8_tellPlan 142 = .ok (.invokevirtual 300, 3) := by decide +kernel
theorem dX8_tellPlan_145 : decode cX8_tellPlan 145 = .ok (.ifCond .eq 26, 3) := by decide +kernel
theorem dX8_tellPlan_148 : decode cX8_tellPlan 148 = .ok (.aload_n 0, 1) := by decide +kernel
theorem dX8_tellPlan_149 : decode cX8_tellPlan 149 = .ok (.getfield 26, 3) := by decide +kernel
theorem dX8_tellPlan_152 : decode cX8_tellPlan 152 = .ok (.iload_n 1, 1) := by decide +kernel
theorem dX8_tellPlan_153 : decode cX8_tellPlan 153 = .ok (.aaload, 1) := by decide +kernel
theorem dX8_tellPlan_154 : decode cX8_tellPlan 154 = .ok (.iload_n 2, 1) := by decide +kernel
theorem dX8_tellPlan_155 : decode cX8_tellPlan 155 = .ok (.iaload, 1) := by decide +kernel
theorem dX8_tellPlan_156 : decode cX8_tellPlan 156 = .ok (.aload_n 0, 1) := by decide +kernel
theorem dX8_tellPlan_157 : decode cX8_tellPlan 157 = .ok (.getfield 76, 3) := by decide +kernel
theorem dX8_tellPlan_160 : decode cX8_tellPlan 160 = .ok (.iload_n 2, 1) := by decide +kernel
theorem dX8_tellPlan_161 : decode cX8_tellPlan 161 = .ok (.iaload, 1) := by decide +kernel
theorem dX8_tellPlan_162 : decode cX8_tellPlan 162 = .ok (.if_icmp .eq 9, 3) := by decide +kernel
theorem dX8_tellPlan_165 : decode cX8_tellPlan 165 = .ok (.aload_n 0, 1) := by decide +kernel
theorem dX8_tellPlan_166 : decode cX8_tellPlan 166 = .ok (.iconst 3, 1) := by decide +kernel
theorem dX8_tellPlan_167 : decode cX8_tellPlan 167 = .ok (.iload_n 2, 1) := by decide +kernel
theorem dX8_tellPlan_168 : decode cX8_tellPlan 168 = .ok (.invokevirtual 306, 3) := by decide +kernel
theorem dX8_tellPlan_171 : decode cX8_tellPlan 171 = .ok (.iinc 2 1, 3) := by decide +kernel
theorem dX8_tellPlan_174 : decode cX8_tellPlan 174 = .ok (.goto (-52), 3) := by decide +kernel
theorem dX8_tellPlan_177 : decode cX8_tellPlan 177 = .ok (.aload_n 0, 1) := by decide +kernel
theorem dX8_tellPlan_178 : decode cX8_tellPlan 178 = .ok (.getfield 130, 3) := by decide +kernel
theorem dX8_tellPlan_181 : decode cX8_tellPlan 181 = .ok (.iconst 1, 1) := by decide +kernel
theorem dX8_tellPlan_182 : decode cX8_tellPlan 182 = .ok (.isub, 1) := by decide +kernel
theorem dX8_tellPlan_183 : decode cX8_tellPlan 183 = .ok (.istore_n 2, 1) := by decide +kernel
theorem dX8_tellPlan_184 : decode cX8_tellPlan 184 = .ok (.iload_n 2, 1) := by decide +kernel
theorem dX8_tellPlan_185 : decode cX8_tellPlan 185 = .ok (.ifCond .lt 33, 3) := by decide +kernel
theorem dX8_tellPlan_188 : decode cX8_tellPlan 188 = .ok (.aload_n 0, 1) := by decide +kernel
theorem dX8_tellPlan_189 : decode cX8_tellPlan 189 = .ok (.iload_n 1, 1) := by decide +kernel
theorem dX8_tellPlan_190 : decode cX8_tellPlan 190 = .ok (.iload_n 2, 1) := by decide +kernel
theorem dX8_tellPlan_191 : decode cX8_tellPlan 191 = .ok (.invokevirtual 303, 3) := by decide +kernel
theorem dX8_tellPlan_194 : decode cX8_tellPlan 194 = .ok (.ifCond .eq 18, 3) := by decide +kernel
theorem dX8_tellPlan_197 : decode cX8_tellPlan 197 = .ok (.aload_n 0, 1) := by decide +kernel
theorem dX8_tellPlan_198 : decode cX8_tellPlan 198 = .ok (.getfield 64, 3) := by decide +kernel
theorem dX8_tellPlan_201 : decode cX8_tellPlan 201 = .ok (.iload_n 2, 1) := by decide +kernel
theorem dX8_tellPlan_202 : decode cX8_tellPlan 202 = .ok (.baload, 1) := by decide +kernel
theorem dX8_tellPlan_203 : decode cX8_tellPlan 203 = .ok (.ifCond .ne 9, 3) := by decide +kernel
theorem dX8_tellPlan_206 : decode cX8_tellPlan 206 = .ok (.aload_n 0, 1) := by decide +kernel
theorem dX8_tellPlan_207 : decode cX8_tellPlan 207 = .ok (.iconst 4, 1) := by decide +kernel
theorem dX8_tellPlan_208 : decode cX8_tellPlan 208 = .ok (.iload_n 2, 1) := by decide +kernel
theorem dX8_tellPlan_209 : decode cX8_tellPlan 209 = .ok (.invokevirtual 306, 3) := by decide +kernel
theorem dX8_tellPlan_212 : decode cX8_tellPlan 212 = .ok (.iinc 2 (-1), 3) := by decide +kernel
theorem dX8_tellPlan_215 : decode cX8_tellPlan 215 = .ok (.goto (-31), 3) := by decide +kernel
theorem dX8_tellPlan_218 : decode cX8_tellPlan 218 = .ok (.return_, 1) := by decide +kernel
theorem dX8_step__0 : decode cX8_step_ 0 = .ok (.iload_n 1, 1) := by decide +kernel
theorem dX8_step__1 : decode cX8_step_ 1 = .ok (.invokestatic 151, 3) := by decide +kernel
theorem dX8_step__4 : decode cX8_step_ 4 = .ok (.ifCond .eq 12, 3) := by decide +kernel
theorem dX8_step__7 : decode cX8_step_ 7 = .ok (.iload_n 3, 1) := by decide +kernel
theorem dX8_step__8 : decode cX8_step_ 8 = .ok (.iconst 0, 1) := by decide +kernel
theorem dX8_step__9 : decode cX8_step_ 9 = .ok (.iconst 4, 1) := by decide +kernel
theorem dX8_step__10 : decode cX8_step_ 10 = .ok (.invokestatic 133, 3) := by decide +kernel
theorem dX8_step__13 : decode cX8_step_ 13 = .ok (.ifCond .ne 6, 3) := by decide +kernel
theorem dX8_step__16 : decode cX8_step_ 16 = .ok (.bipush (-2), 2) := by decide +kernel
theorem dX8_step__18 : decode cX8_step_ 18 = .ok (.ireturn, 1) := by decide +kernel
theorem dX8_step__19 : decode cX8_step_ 19 = .ok (.aload_n 0, 1) := by decide +kernel
theorem dX8_step__20 : decode cX8_step_ 20 = .ok (.aload_n 0, 1) := by decide +kernel
theorem dX8_step__21 : decode cX8_step_ 21 = .ok (.getfield 288, 3) := by decide +kernel
theorem dX8_step__24 : decode cX8_step_ 24 = .ok (.invokevirtual 291, 3) := by decide +kernel
theorem dX8_step__27 : decode cX8_step_ 27 = .ok (.aload_n 0, 1) := by decide +kernel
theorem dX8_step__28 : decode cX8_step_ 28 = .ok (.iload_n 1, 1) := by decide +kernel
theorem dX8_step__29 : decode cX8_step_ 29 = .ok (.invokevirtual 309, 3) := by decide +kernel
theorem dX8_step__32 : decode cX8_step_ 32 = .ok (.iload_n 2, 1) := by decide +kernel
theorem dX8_step__33 : decode cX8_step_ 33 = .ok (.iconst 0, 1) := by decide +kernel
theorem dX8_step__34 : decode cX8_step_ 34 = .ok (.aload_n 0, 1) := by decide +kernel
theorem dX8_step__35 : decode cX8_step_ 35 = .ok (.getfield 297, 3) := by decide +kernel
theorem dX8_step__38 : decode cX8_step_ 38 = .ok (.iconst 1, 1) := by decide +kernel
theorem dX8_step__39 : decode cX8_step_ 39 = .ok (.isub, 1) := by decide +kernel
theorem dX8_step__40 : decode cX8_step_ 40 = .ok (.invokestatic 133, 3) := by decide +kernel
theorem dX8_step__43 : decode cX8_step_ 43 = .ok (.ifCond .ne 6, 3) := by decide +kernel
theorem dX8_step__46 : decode cX8_step_ 46 = .ok (.bipush (-12), 2) := by decide +kernel
theorem dX8_step__48 : decode cX8_step_ 48 = .ok (.ireturn, 1) := by decide +kernel
theorem dX8_step__49 : decode cX8_step_ 49 = .ok (.aload_n 0, 1) := by decide +kernel
theorem dX8_step__50 : decode cX8_step_ 50 = .ok (.getfield 79, 3) := by decide +kernel
theorem dX8_step__53 : decode cX8_step_ 53 = .ok (.iload_n 2, 1) := by decide +kernel
theorem dX8_step__54 : decode cX8_step_ 54 = .ok (.iaload, 1) := by decide +kernel
theorem dX8_step__55 : decode cX8_step_ 55 = .ok (.istore 4, 2) := by decide +kernel
theorem dX8_step__57 : decode cX8_step_ 57 = .ok (.aload_n 0, 1) := by decide +kernel
theorem dX8_step__58 : decode cX8_step_ 58 = .ok (.getfield 82, 3) := by decide +kernel
theorem dX8_step__61 : decode cX8_step_ 61 = .ok (.iload_n 2, 1) := by decide +kernel
theorem dX8_step__62 : decode cX8_step_ 62 = .ok (.iaload, 1) := by decide +kernel
theorem dX8_step__63 : decode cX8_step_ 63 = .ok (.istore 5, 2) := by decide +kernel
theorem dX8_step__65 : decode cX8_step_ 65 = .ok (.iload 4, 2) := by decide +kernel
theorem dX8_step__67 : decode cX8_step_ 67 = .ok (.iconst 1, 1) := by decide +kernel
theorem dX8_step__68 : decode cX8_step_ 68 = .ok (.if_icmp .eq 9, 3) := by decide +kernel
theorem dX8_step__71 : decode cX8_step_ 71 = .ok (.iload 4, 2) := by decide +kernel
theorem dX8_step__73 : decode cX8_step_ 73 = .ok (.iconst 2, 1) := by decide +kernel
theorem dX8_step__74 : decode cX8_step_ 74 = .ok (.if_icmp .ne 7, 3) := by decide +kernel
theorem dX8_step__77 : decode cX8_step_ 77 = .ok (.iconst 1, 1) := by decide +kernel
theorem dX8_step__78 : decode cX8_step_ 78 = .ok (.goto 4, 3) := by decide +kernel
theorem dX8_step__81 : decode cX8_step_ 81 = .ok (.iconst 0, 1) := by decide +kernel
theorem dX8_step__82 : decode cX8_step_ 82 = .ok (.istore 6, 2) := by decide +kernel
theorem dX8_step__84 : decode cX8_step_ 84 = .ok (.iload_n 3, 1) := by decide +kernel
theorem dX8_step__85 : decode cX8_step_ 85 = .ok (.iconst 2, 1) := by decide +kernel
theorem dX8_step__86 : decode cX8_step_ 86 = .ok (.if_icmp .ge 15, 3) := by decide +kernel
theorem dX8_step__89 : decode cX8_step_ 89 = .ok (.iload_n 3, 1) := by decide +kernel
theorem dX8_step__90 : decode cX8_step_ 90 = .ok (.ifCond .ne 8, 3) := by decide +kernel
theorem dX8_step__93 : decode cX8_step_ 93 = .ok (.iload 4, 2) := by decide +kernel
theorem dX8_step__95 : decode cX8_step_ 95 = .ok (.goto 5, 3) := by decide +kernel
theorem dX8_step__98 : decode cX8_step_ 98 = .ok (.iload 5, 2) := by decide +kernel
theorem dX8_step__100 : decode cX8_step_ 100 = .ok (.ireturn, 1) := by decide +kernel
theorem dX8_step__101 : decode cX8_step_ 101 = .ok (.iload_n 3, 1) := by decide +kernel
theorem dX8_step__102 : decode cX8_step_ 102 = .ok (.iconst 2, 1) := by decide +kernel
theorem dX8_step__103 : decode cX8_step_ 103 = .ok (.if_icmp .ne 20, 3) := by decide +kernel
theorem dX8_step__106 : decode cX8_step_ 106 = .ok (.iload 6, 2) := by decide +kernel
theorem dX8_step__108 : decode cX8_step_ 108 = .ok (.ifCond .eq 13, 3) := by decide +kernel
theorem dX8_step__111 : decode cX8_step_ 111 = .ok (.aload_n 0, 1) := by decide +kernel
theorem dX8_step__112 : decode cX8_step_ 112 = .ok (.getfield 70, 3) := by decide +kernel
theorem dX8_step__115 : decode cX8_step_ 115 = .ok (.iload 5, 2) := by decide +kernel
theorem dX8_step__117 : decode cX8_step_ 117 = .ok (.iaload, 1) := by decide +kernel
theorem dX8_step__118 : decode cX8_step_ 118 = .ok (.goto 4, 3) := by decide +kernel
theorem dX8_step__121 : decode cX8_step_ 121 = .ok (.iconst (-1), 1) := by decide +kernel
theorem dX8_step__122 : decode cX8_step_ 122 = .ok (.ireturn, 1) := by decide +kernel
theorem dX8_step__123 : decode cX8_step_ 123 = .ok (.iload_n 3, 1) := by decide +kernel
theorem dX8_step__124 : decode cX8_step_ 124 = .ok (.iconst 3, 1) := by decide +kernel
theorem dX8_step__125 : decode cX8_step_ 125 = .ok (.if_icmp .ne 33, 3) := by decide +kernel
theorem dX8_step__128 : decode cX8_step_ 128 = .ok (.iload 6, 2) := by decide +kernel
theorem dX8_step__130 : decode cX8_step_ 130 = .ok (.ifCond .eq 13, 3) := by decide +kernel
theorem dX8_step__133 : decode cX8_step_ 133 = .ok (.aload_n 0, 1) := by decide +kernel
theorem dX8_step__134 : decode cX8_step_ 134 = .ok (.getfield 73, 3) := by decide +kernel
theorem dX8_step__137 : decode cX8_step_ 137 = .ok (.iload 5, 2) := by decide +kernel
theorem dX8_step__139 : decode cX8_step_ 139 = .ok (.iaload, 1) := by decide +kernel
theorem dX8_step__140 : decode cX8_step_ 140 = .ok (.goto 17, 3) := by decide +kernel
theorem dX8_step__143 : decode cX8_step_ 143 = .ok (.iload 4, 2) := by decide +kernel
theorem dX8_step__145 : decode cX8_step_ 145 = .ok (.ifCond .ne 11, 3) := by decide +kernel
theorem dX8_step__148 : decode cX8_step_ 148 = .ok (.bipush 100, 2) := by decide +kernel
theorem dX8_step__150 : decode cX8_step_ 150 = .ok (.iload 5, 2) := by decide +kernel
theorem dX8_step__152 : decode cX8_step_ 152 = .ok (.iadd, 1) := by decide +kernel
theorem dX8_step__153 : decode cX8_step_ 153 = .ok (.goto 4, 3) := by decide +kernel
theorem dX8_step__156 : decode cX8_step_ 156 = .ok (.iconst (-1), 1) := by decide +kernel
theorem dX8_step__157 : decode cX8_step_ 157 = .ok (.ireturn, 1) := by decide +kernel
theorem dX8_step__158 : decode cX8_step_ 158 = .ok (.iload 4, 2) := by decide +kernel
theorem dX8_step__160 : decode cX8_step_ 160 = .ok (.iconst 1, 1) := by decide +kernel
theorem dX8_step__161 : decode cX8_step_ 161 = .ok (.if_icmp .eq 9, 3) := by decide +kernel
theorem dX8_step__164 : decode cX8_step_ 164 = .ok (.iload 4, 2) := by decide +kernel
theorem dX8_step__166 : decode cX8_step_ 166 = .ok (.iconst 3, 1) := by decide +kernel
theorem dX8_step__167 : decode cX8_step_ 167 = .ok (.if_icmp .ne 13, 3) := by decide +kernel
theorem dX8_step__170 : decode cX8_step_ 170 = .ok (.aload_n 0, 1) := by decide +kernel
theorem dX8_step__171 : decode cX8_step_ 171 = .ok (.getfield 76, 3) := by decide +kernel
theorem dX8_step__174 : decode cX8_step_ 174 = .ok (.iload 5, 2) := by decide +kernel
theorem dX8_step__176 : decode cX8_step_ 176 = .ok (.iaload, 1) := by decide +kernel
theorem dX8_step__177 : decode cX8_step_ 177 = .ok (.goto 4, 3) := by decide +kernel
theorem dX8_step__180 : decode cX8_step_ 180 = .ok (.iconst (-1), 1) := by decide +kernel
theorem dX8_step__181 : decode cX8_step_ 181 = .ok (.ireturn, 1) := by decide +kernel
theorem dX8_areAlike_0 : decode cX8_areAlike 0 = .ok (.aload_n 0, 1) := by decide +kernel
theorem dX8_areAlike_1 : decode cX8_areAlike 1 = .ok (.invokevirtual 196, 3) := by decide +kernel
theorem dX8_areAlike_4 : decode cX8_areAlike 4 = .ok (.iconst 0, 1) := by decide +kernel
theorem dX8_areAlike_5 : decode cX8_areAlike 5 = .ok (.istore_n 1, 1) := by decide +kernel
theorem dX8_areAlike_6 : decode cX8_areAlike 6 = .ok (.iload_n 1, 1) := by decide +kernel
theorem dX8_areAlike_7 : decode cX8_areAlike 7 = .ok (.aload_n 0, 1) := by decide +kernel
theorem dX8_areAlike_8 : decode cX8_areAlike 8 = .ok (.getfield 130, 3) := by decide +kernel
theorem dX8_areAlike_11 : decode cX8_areAlike 11 = .ok (.if_icmp .ge 112, 3) := by decide +kernel
theorem dX8_areAlike_14 : decode cX8_areAlike 14 = .ok (.aload_n 0, 1) := by decide +kernel
theorem dX8_areAlike_15 : decode cX8_areAlike 15 = .ok (.getfield 55, 3) := by decide +kernel
theorem dX8_areAlike_18 : decode cX8_areAlike 18 = .ok (.iload_n 1, 1) := by decide +kernel
theorem dX8_areAlike_19 : decode cX8_areAlike 19 = .ok (.baload, 1) := by decide +kernel
theorem dX8_areAlike_20 : decode cX8_areAlike 20 = .ok (.ifCond .eq 6, 3) := by decide +kernel
theorem dX8_areAlike_23 : decode cX8_areAlike 23 = .ok (.goto 94, 3) := by decide +kernel
theorem dX8_areAlike_26 : decode cX8_areAlike 26 = .ok (.aload_n 0, 1) := by decide +kernel
theorem dX8_areAlike_27 : decode cX8_areAlike 27 = .ok (.getfield 15, 3) := by decide +kernel
theorem dX8_areAlike_30 : decode cX8_areAlike 30 = .ok (.iconst 0, 1) := by decide +kernel
theorem dX8_areAlike_31 : decode cX8_areAlike 31 = .ok (.aaload, 1) := by decide +kernel
theorem dX8_areAlike_32 : decode cX8_areAlike 32 = .ok (.iload_n 1, 1) := by decide +kernel
theorem dX8_areAlike_33 : decode cX8_areAlike 33 = .ok (.baload, 1) := by decide +kernel
theorem dX8_areAlike_34 : decode cX8_areAlike 34 = .ok (.aload_n 0, 1) := by decide +kernel
theorem dX8_areAlike_35 : decode cX8_areAlike 35 = .ok (.getfield 15, 3) := by decide +kernel
theorem dX8_areAlike_38 : decode cX8_areAlike 38 = .ok (.iconst 1, 1) := by decide +kernel
theorem dX8_areAlike_39 : decode cX8_areAlike 39 = .ok (.aaload, 1) := by decide +kernel
theorem dX8_areAlike_40 : decode cX8_areAlike 40 = .ok (.iload_n 1, 1) := by decide +kernel
theorem dX8_areAlike_41 : decode cX8_areAlike 41 = .ok (.baload, 1) := by decide +kernel
theorem dX8_areAlike_42 : decode cX8_areAlike 42 = .ok (.if_icmp .eq 5, 3) := by decide +kernel
theorem dX8_areAlike_45 : decode cX8_areAlike 45 = .ok (.iconst 0, 1) := by decide +kernel
theorem dX8_areAlike_46 : decode cX8_areAlike 46 = .ok (.ireturn, 1) := by decide +kernel
theorem dX8_areAlike_47 : decode cX8_areAlike 47 = .ok (.aload_n 0, 1) := by decide +kernel
theorem dX8_areAlike_48 : decode cX8_areAlike 48 = .ok (.getfield 15, 3) := by decide +kernel
theorem dX8_areAlike_51 : decode cX8_areAlike 51 = .ok (.iconst 0, 1) := by decide +kernel
theorem dX8_areAlike_52 : decode cX8_areAlike 52 = .ok (.aaload, 1) := by decide +kernel
theorem dX8_areAlike_53 : decode cX8_areAlike 53 = .ok (.iload_n 1, 1) := by decide +kernel
theorem dX8_areAlike_54 : decode cX8_areAlike 54 = .ok (.baload, 1) := by decide +kernel
theorem dX8_areAlike_55 : decode cX8_areAlike 55 = .ok (.ifCond .eq 62, 3) := by decide +kernel
theorem dX8_areAlike_58 : decode cX8_areAlike 58 = .ok (.aload_n 0, 1) := by decide +kernel
theorem dX8_areAlike_59 : decode cX8_areAlike 59 = .ok (.getfield 20, 3) := by decide +kernel
theorem dX8_areAlike_62 : decode cX8_areAlike 62 = .ok (.iconst 0, 1) := by decide +kernel
theorem dX8_areAlike_63 : decode cX8_areAlike 63 = .ok (.aaload, 1) := by decide +kernel
theorem dX8_areAlike_64 : decode cX8_areAlike 64 = .ok (.iload_n 1, 1) := by decide +kernel
theorem dX8_areAlike_65 : decode cX8_areAlike 65 = .ok (.iaload, 1) := by decide +kernel
theorem dX8_areAlike_66 : decode cX8_areAlike 66 = .ok (.aload_n 0, 1) := by decide +kernel
theorem dX8_areAlike_67 : decode cX8_areAlike 67 = .ok (.getfield 20, 3) := by decide +kernel
theorem dX8_areAlike_70 : decode cX8_areAlike 70 = .ok (.iconst 1, 1) := by decide +kernel
theorem dX8_areAlike_71 : decode cX8_areAlike 71 = .ok (.aaload, 1) := by decide +kernel
theorem dX8_areAlike_72 : decode cX8_areAlike 72 = .ok (.iload_n 1, 1) := by decide +kernel
theorem dX8_areAlike_73 : decode cX8_areAlike 73 = .ok (.iaload, 1) := by decide +kernel
theorem dX8_areAlike_74 : decode cX8_areAlike 74 = .ok (.if_icmp .ne 41, 3) := by decide +kernel
theorem dX8_areAlike_77 : decode cX8_areAlike 77 = .ok (.aload_n 0, 1) := by decide +kernel
theorem dX8_areAlike_78 : decode cX8_areAlike 78 = .ok (.getfield 23, 3) := by decide +kernel
theorem dX8_areAlike_81 : decode cX8_areAlike 81 = .ok (.iconst 0, 1) := by decide +kernel
theorem dX8_areAlike_82 : decode cX8_areAlike 82 = .ok (.aaload, 1) := by decide +kernel
theorem dX8_areAlike_83 : decode cX8_areAlike 83 = .ok (.iload_n 1, 1) := by decide +kernel
theorem dX8_areAlike_84 : decode cX8_areAlike 84 = .ok (.iaload, 1) := by decide +kernel
theorem dX8_areAlike_85 : decode cX8_areAlike 85 = .ok (.aload_n 0, 1) := by decide +kernel
theorem dX8_areAlike_86 : decode cX8_areAlike 86 = .ok (.getfield 23, 3) := by decide +kernel
theorem dX8_areAlike_89 : decode cX8_areAlike 89 = .ok (.iconst 1, 1) := by decide +kernel
theorem dX8_areAlike_90 : decode cX8_areAlike 90 = .ok (.aaload, 1) := by decide +kernel
theorem dX8_areAlike_91 : decode cX8_areAlike 91 = .ok (.iload_n 1, 1) := by decide +kernel
theorem dX8_areAlike_92 : decode cX8_areAlike 92 = .ok (.iaload, 1) := by decide +kernel
theorem dX8_areAlike_93 : decode cX8_areAlike 93 = .ok (.if_icmp .ne 22, 3) := by decide +kernel
theorem dX8_areAlike_96 : decode cX8_areAlike 96 = .ok (.aload_n 0, 1) := by decide +kernel
theorem dX8_areAlike_97 : decode cX8_areAlike 97 = .ok (.getfield 26, 3) := by decide +kernel
theorem dX8_areAlike_100 : decode cX8_areAlike 100 = .ok (.iconst 0, 1) := by decide +kernel
theorem dX8_areAlike_101 : decode cX8_areAlike 101 = .ok (.aaload, 1) := by decide +kernel
theorem dX8_areAlike_102 : decode cX8_areAlike 102 = .ok (.iload_n 1, 1) := by decide +kernel
theorem dX8_areAlike_103 : decode cX8_areAlike 103 = .ok (.iaload, 1) := by decide +kernel
theorem dX8_areAlike_104 : decode cX8_areAlike 104 = .ok (.aload_n 0, 1) := by decide +kernel
theorem dX8_areAlike_105 : decode cX8_areAlike 105 = .ok (.getfield 26, 3) := by decide +kernel
theorem dX8_areAlike_108 : decode cX8_areAlike 108 = .ok (.iconst 1, 1) := by decide +kernel
theorem dX8_areAlike_109 : decode cX8_areAlike 109 = .ok (.aaload, 1) := by decide +kernel
theorem dX8_areAlike_110 : decode cX8_areAlike 110 = .ok (.iload_n 1, 1) := by decide +kernel
theorem dX8_areAlike_111 : decode cX8_areAlike 111 = .ok (.iaload, 1) := by decide +kernel
theorem dX8_areAlike_112 : decode cX8_areAlike 112 = .ok (.if_icmp .eq 5, 3) := by decide +kernel
theorem dX8_areAlike_115 : decode cX8_areAlike 115 = .ok (.iconst 0, 1) := by decide +kernel
theorem dX8_areAlike_116 : decode cX8_areAlike 116 = .ok (.ireturn, 1) := by decide +kernel
theorem dX8_areAlike_117 : decode cX8_areAlike 117 = .ok (.iinc 1 1, 3) := by decide +kernel
theorem dX8_areAlike_120 : decode cX8_areAlike 120 = .ok (.goto (-114), 3) := by decide +kernel
theorem dX8_areAlike_123 : decode cX8_areAlike 123 = .ok (.iconst 1, 1) := by decide +kernel
theorem dX8_areAlike_124 : decode cX8_areAlike 124 = .ok (.ireturn, 1) := by decide +kernel
theorem dX8_would_0 : decode cX8_would 0 = .ok (.iload_n 1, 1) := by decide +kernel
theorem dX8_would_1 : decode cX8_would 1 = .ok (.iconst 0, 1) := by decide +kernel
theorem dX8_would_2 : decode cX8_would 2 = .ok (.iconst 3, 1) := by decide +kernel
theorem dX8_would_3 : decode cX8_would 3 = .ok (.invokestatic 133, 3) := by decide +kernel
theorem dX8_would_6 : decode cX8_would 6 = .ok (.ifCond .ne 6, 3) := by decide +kernel
theorem dX8_would_9 : decode cX8_would 9 = .ok (.bipush (-2), 2) := by decide +kernel
theorem dX8_would_11 : decode cX8_would 11 = .ok (.ireturn, 1) := by decide +kernel
theorem dX8_would_12 : decode cX8_would 12 = .ok (.iload_n 1, 1) := by decide +kernel
theorem dX8_would_13 : decode cX8_would 13 = .ok (.iconst 3, 1) := by decide +kernel
theorem dX8_would_14 : decode cX8_would 14 = .ok (.if_icmp .ne 16, 3) := by decide +kernel
theorem dX8_would_17 : decode cX8_would 17 = .ok (.aload_n 0, 1) := by decide +kernel
theorem dX8_would_18 : decode cX8_would 18 = .ok (.invokevirtual 312, 3) := by decide +kernel
theorem dX8_would_21 : decode cX8_would 21 = .ok (.ifCond .eq 7, 3) := by decide +kernel
theorem dX8_would_24 : decode cX8_would 24 = .ok (.iconst 1, 1) := by decide +kernel
theorem dX8_would_25 : decode cX8_would 25 = .ok (.goto 4, 3) := by decide +kernel
theorem dX8_would_28 : decode cX8_would 28 = .ok (.iconst 0, 1) := by decide +kernel
theorem dX8_would_29 : decode cX8_would 29 = .ok (.ireturn, 1) := by decide +kernel
theorem dX8_would_30 : decode cX8_would 30 = .ok (.aload_n 0, 1) := by decide +kernel
theorem dX8_would_31 : decode cX8_would 31 = .ok (.aload_n 0, 1) := by decide +kernel
theorem dX8_would_32 : decode cX8_would 32 = .ok (.getfield 288, 3) := by decide +kernel
theorem dX8_would_35 : decode cX8_would 35 = .ok (.invokevirtual 291, 3) := by decide +kernel
theorem dX8_would_38 : decode cX8_would 38 = .ok (.iload_n 1, 1) := by decide +kernel
theorem dX8_would_39 : decode cX8_would 39 = .ok (.ifCond .ne 8, 3) := by decide +kernel
theorem dX8_would_42 : decode cX8_would 42 = .ok (.aload_n 0, 1) := by decide +kernel
theorem dX8_would_43 : decode cX8_would 43 = .ok (.getfield 249, 3) := by decide +kernel
theorem dX8_would_46 : decode cX8_would 46 = .ok (.ireturn, 1) := by decide +kernel
theorem dX8_would_47 : decode cX8_would 47 = .ok (.aload_n 0, 1) := by decide +kernel
theorem dX8_would_48 : decode cX8_would 48 = .ok (.iload_n 1, 1) := by decide +kernel
theorem dX8_would_49 : decode cX8_would 49 = .ok (.iconst 1, 1) := by decide +kernel
theorem dX8_would_50 : decode cX8_would 50 = .ok (.isub, 1) := by decide +kernel
theorem dX8_would_51 : decode cX8_would 51 = .ok (.invokevirtual 309, 3) := by decide +kernel
theorem dX8_would_54 : decode cX8_would 54 = .ok (.aload_n 0, 1) := by decide +kernel
theorem dX8_would_55 : decode cX8_would 55 = .ok (.getfield 297, 3) := by decide +kernel
theorem dX8_would_58 : decode cX8_would 58 = .ok (.ireturn, 1) := by decide +kernel
theorem dX8_becomesTarget_0 : decode cX8_becomesTarget 0 = .ok (.iconst 0, 1) := by decide +kernel
theorem dX8_becomesTarget_1 : decode cX8_becomesTarget 1 = .ok (.istore_n 2, 1) := by decide +kernel
theorem dX8_becomesTarget_2 : decode cX8_becomesTarget 2 = .ok (.iload_n 2, 1) := by decide +kernel
theorem dX8_becomesTarget_3 : decode cX8_becomesTarget 3 = .ok (.aload_n 0, 1) := by decide +kernel
theorem dX8_becomesTarget_4 : decode cX8_becomesTarget 4 = .ok (.getfield 260, 3) := by decide +kernel
theorem dX8_becomesTarget_7 : decode cX8_becomesTarget 7 = .ok (.if_icmp .ge 76, 3) := by decide +kernel
theorem dX8_becomesTarget_10 : decode cX8_becomesTarget 10 = .ok (.iload_n 2, 1) := by decide +kernel
theorem dX8_becomesTarget_11 : decode cX8_becomesTarget 11 = .ok (.aload_n 0, 1) := by decide +kernel
theorem dX8_becomesTarget_12 : decode cX8_becomesTarget 12 = .ok (.getfield 130, 3) := by decide +kernel
theorem dX8_becomesTarget_15 : decode cX8_becomesTarget 15 = .ok (.if_icmp .ge 15, 3) := by decide +kernel
theorem dX8_becomesTarget_18 : decode cX8_becomesTarget 18 = .ok (.aload_n 0, 1) := by decide +kernel
theorem dX8_becomesTarget_19 : decode cX8_becomesTarget 19 = .ok (.getfield 55, 3) := by decide +kernel
theorem dX8_becomesTarget_22 : decode cX8_becomesTarget 22 = .ok (.iload_n 2, 1) := by decide +kernel
theorem dX8_becomesTarget_23 : decode cX8_becomesTarget 23 = .ok (.baload, 1) := by decide +kernel
theorem dX8_becomesTarget_24 : decode cX8_becomesTarget 24 = .ok (.ifCond .eq 6, 3) := by decide +kernel
theorem dX8_becomesTarget_27 : decode cX8_becomesTarget 27 = .ok (.goto 50, 3) := by decide +kernel
theorem dX8_becomesTarget_30 : decode cX8_becomesTarget 30 = .ok (.aload_n 0, 1) := by decide +kernel
theorem dX8_becomesTarget_31 : decode cX8_becomesTarget 31 = .ok (.getfield 15, 3) := by decide +kernel
theorem dX8_becomesTarget_34 : decode cX8_becomesTarget 34 = .ok (.iload_n 1, 1) := by decide +kernel
theorem dX8_becomesTarget_35 : decode cX8_becomesTarget 35 = .ok (.aaload, 1) := by decide +kernel
theorem dX8_becomesTarget_36 : decode cX8_becomesTarget 36 = .ok (.iload_n 2, 1) := by decide +kernel
theorem dX8_becomesTarget_37 : decode cX8_becomesTarget 37 = .ok (.aload_n 0, 1) := by decide +kernel
theorem dX8_becomesTarget_38 : decode cX8_becomesTarget 38 = .ok (.getfield 64, 3) := by decide +kernel
theorem dX8_becomesTarget_41 : decode cX8_becomesTarget 41 = .ok (.iload_n 2, 1) := by decide +kernel
theorem dX8_becomesTarget_42 : decode cX8_becomesTarget 42 = .ok (.baload, 1) := by decide +kernel
theorem dX8_becomesTarget_43 : decode cX8_becomesTarget 43 = .ok (.bastore, 1) := by decide +kernel
theorem dX8_becomesTarget_44 : decode cX8_becomesTarget 44 = .ok (.aload_n 0, 1) := by decide +kernel
theorem dX8_becomesTarget_45 : decode cX8_becomesTarget 45 = .ok (.getfield 64, 3) := by decide +kernel
theorem dX8_becomesTarget_48 : decode cX8_becomesTarget 48 = .ok (.iload_n 2, 1) := by decide +kernel
theorem dX8_becomesTarget_49 : decode cX8_becomesTarget 49 = .ok (.baload, 1) := by decide +kernel
theorem dX8_becomesTarget_50 : decode cX8_becomesTarget 50 = .ok (.ifCond .eq 27, 3) := by decide +kernel
theorem dX8_becomesTarget_53 : decode cX8_becomesTarget 53 = .ok (.aload_n 0, 1) := by decide +kernel
theorem dX8_becomesTarget_54 : decode cX8_becomesTarget 54 = .ok (.iload_n 1, 1) := by decide +kernel
theorem dX8_becomesTarget_55 : decode cX8_becomesTarget 55 = .ok (.iload_n 2, 1) := by decide +kernel
theorem dX8_becomesTarget_56 : decode cX8_becomesTarget 56 = .ok (.aload_n 0, 1) := by decide +kernel
theorem dX8_becomesTarget_57 : decode cX8_becomesTarget 57 = .ok (.getfield 70, 3) := by decide +kernel
theorem dX8_becomesTarget_60 : decode cX8_becomesTarget 60 = .ok (.iload_n 2, 1) := by decide +kernel
theorem dX8_becomesTarget_61 : decode cX8_becomesTarget 61 = .ok (.iaload, 1) := by decide +kernel
theorem dX8_becomesTarget_62 : decode cX8_becomesTarget 62 = .ok (.aload_n 0, 1) := by decide +kernel
theorem dX8_becomesTarget_63 : decode cX8_becomesTarget 63 = .ok (.getfield 73, 3) := by decide +kernel
theorem dX8_becomesTarget_66 : decode cX8_becomesTarget 66 = .ok (.iload_n 2, 1) := by decide +kernel
theorem dX8_becomesTarget_67 : decode cX8_becomesTarget 67 = .ok (.iaload, 1) := by decide +kernel
theorem dX8_becomesTarget_68 : decode cX8_becomesTarget 68 = .ok (.aload_n 0, 1) := by decide +kernel
theorem dX8_becomesTarget_69 : decode cX8_becomesTarget 69 = .ok (.getfield 76, 3) := by decide +kernel
theorem dX8_becomesTarget_72 : decode cX8_becomesTarget 72 = .ok (.iload_n 2, 1) := by decide +kernel
theorem dX8_becomesTarget_73 : decode cX8_becomesTarget 73 = .ok (.iaload, 1) := by decide +kernel
theorem dX8_becomesTarget_74 : decode cX8_becomesTarget 74 = .ok (.invokevirtual 173, 3) := by decide +kernel
theorem dX8_becomesTarget_77 : decode cX8_becomesTarget 77 = .ok (.iinc 2 1, 3) := by decide +kernel
theorem dX8_becomesTarget_80 : decode cX8_becomesTarget 80 = .ok (.goto (-78), 3) := by decide +kernel
theorem dX8_becomesTarget_83 : decode cX8_becomesTarget 83 = .ok (.return_, 1) := by decide +kernel
theorem dX8_leavesIgnored_0 : decode cX8_leavesIgnored 0 = .ok (.iconst 1, 1) := by decide +kernel
theorem dX8_leavesIgnored_1 : decode cX8_leavesIgnored 1 = .ok (.istore_n 1, 1) := by decide +kernel
theorem dX8_leavesIgnored_2 : decode cX8_leavesIgnored 2 = .ok (.iload_n 1, 1) := by decide +kernel
theorem dX8_leavesIgnored_3 : decode cX8_leavesIgnored 3 = .ok (.ifCond .eq 83, 3) := by decide +kernel
theorem dX8_leavesIgnored_6 : decode cX8_leavesIgnored 6 = .ok (.iconst 0, 1) := by decide +kernel
theorem dX8_leavesIgnored_7 : decode cX8_leavesIgnored 7 = .ok (.istore_n 1, 1) := by decide +kernel
theorem dX8_leavesIgnored_8 : decode cX8_leavesIgnored 8 = .ok (.iconst 0, 1) := by decide +kernel
theorem dX8_leavesIgnored_9 : decode cX8_leavesIgnored 9 = .ok (.istore_n 2, 1) := by decide +kernel
theorem dX8_leavesIgnored_10 : decode cX8_leavesIgnored 10 = .ok (.iload_n 2, 1) := by decide +kernel
theorem dX8_leavesIgnored_11 : decode cX8_leavesIgnored 11 = .ok (.aload_n 0, 1) := by decide +kernel
theorem dX8_leavesIgnored_12 : decode cX8_leavesIgnored 12 = .ok (.getfield 130, 3) := by decide +kernel
theorem dX8_leavesIgnored_15 : decode cX8_leavesIgnored 15 = .ok (.if_icmp .ge 68, 3) := by decide +kernel
theorem dX8_leavesIgnored_18 : decode cX8_leavesIgnored 18 = .ok (.aload_n 0, 1) := by decide +kernel
theorem dX8_leavesIgnored_19 : decode cX8_leavesIgnored 19 = .ok (.getfield 20, 3) := by decide +kernel
theorem dX8_leavesIgnored_22 : decode cX8_leavesIgnored 22 = .ok (.iconst 2, 1) := by decide +kernel
theorem dX8_leavesIgnored_23 : decode cX8_leavesIgnored 23 = .ok (.aaload, 1) := by decide +kernel
theorem dX8_leavesIgnored_24 : decode cX8_leavesIgnored 24 = .ok (.iload_n 2, 1) := by decide +kernel
theorem dX8_leavesIgnored_25 : decode cX8_leavesIgnored 25 = .ok (.iaload, 1) := by decide +kernel
theorem dX8_leavesIgnored_26 : decode cX8_leavesIgnored 26 = .ok (.istore_n 3, 1) := by decide +kernel
theorem dX8_leavesIgnored_27 : decode cX8_leavesIgnored 27 = .ok (.aload_n 0, 1) := by decide +kernel
theorem dX8_leavesIgnored_28 : decode cX8_leavesIgnored 28 = .ok (.getfield 55, 3) := by decide +kernel
theorem dX8_leavesIgnored_31 : decode cX8_leavesIgnored 31 = .ok (.iload_n 2, 1) := by decide +kernel
theorem dX8_leavesIgnored_32 : decode cX8_leavesIgnored 32 = .ok (.baload, 1) := by decide +kernel
theorem dX8_leavesIgnored_33 : decode cX8_leavesIgnored 33 = .ok (.ifCond .eq 44, 3) := by decide +kernel
theorem dX8_leavesIgnored_36 : decode cX8_leavesIgnored 36 = .ok (.aload_n 0, 1) := by decide +kernel
theorem dX8_leavesIgnored_37 : decode cX8_leavesIgnored 37 = .ok (.getfield 15, 3) := by decide +kernel
theorem dX8_leavesIgnored_40 : decode cX8_leavesIgnored 40 = .ok (.iconst 2, 1) := by decide +kernel
theorem dX8_leavesIgnored_41 : decode cX8_leavesIgnored 41 = .ok (.aaload, 1) := by decide +kernel
theorem dX8_leavesIgnored_42 : decode cX8_leavesIgnored 42 = .ok (.iload_n 2, 1) := by decide +kernel
theorem dX8_leavesIgnored_43 : decode cX8_leavesIgnored 43 = .ok (.baload, 1) := by decide +kernel
theorem dX8_leavesIgnored_44 : decode cX8_leavesIgnored 44 = .ok (.ifCond .eq 33, 3) := by decide +kernel
theorem dX8_leavesIgnored_47 : decode cX8_leavesIgnored 47 = .ok (.iload_n 3, 1) := by decide +kernel
theorem dX8_leavesIgnored_48 : decode cX8_leavesIgnored 48 = .ok (.iconst (-1), 1) := by decide +kernel
theorem dX8_leavesIgnored_49 : decode cX8_leavesIgnored 49 = .ok (.if_icmp .eq 28, 3) := by decide +kernel
theorem dX8_leavesIgnored_52 : decode cX8_leavesIgnored 52 = .ok (.aload_n 0, 1) := by decide +kernel
theorem dX8_leavesIgnored_53 : decode cX8_leavesIgnored 53 = .ok (.getfield 15, 3) := by decide +kernel
theorem dX8_leavesIgnored_56 : decode cX8_leavesIgnored 56 = .ok (.iconst 2, 1) := by decide +kernel
theorem dX8_leavesIgnored_57 : decode cX8_leavesIgnored 57 = .ok (.aaload, 1) := by decide +kernel
theorem dX8_leavesIgnored_58 : decode cX8_leavesIgnored 58 = .ok (.iload_n 3, 1) := by decide +kernel
theorem dX8_leavesIgnored_59 : decode cX8_leavesIgnored 59 = .ok (.baload, 1) := by decide +kernel
theorem dX8_leavesIgnored_60 : decode cX8_leavesIgnored 60 = .ok (.ifCond .eq 6, 3) := by decide +kernel
theorem dX8_leavesIgnored_63 : decode cX8_leavesIgnored 63 = .ok (.goto 14, 3) := by decide +kernel
theorem dX8_leavesIgnored_66 : decode cX8_leavesIgnored 66 = .ok (.aload_n 0, 1) := by decide +kernel
theorem dX8_leavesIgnored_67 : decode cX8_leavesIgnored 67 = .ok (.getfield 15, 3) := by decide +kernel
theorem dX8_leavesIgnored_70 : decode cX8_leavesIgnored 70 = .ok (.iconst 2, 1) := by decide +kernel
theorem dX8_leavesIgnored_71 : decode cX8_leavesIgnored 71 = .ok (.aaload, 1) := by decide +kernel
theorem dX8_leavesIgnored_72 : decode cX8_leavesIgnored 72 = .ok (.iload_n 2, 1) := by decide +kernel
theorem dX8_leavesIgnored_73 : decode cX8_leavesIgnored 73 = .ok (.iconst 0, 1) := by decide +kernel
theorem dX8_leavesIgnored_74 : decode cX8_leavesIgnored 74 = .ok (.bastore, 1) := by decide +kernel
theorem dX8_leavesIgnored_75 : decode cX8_leavesIgnored 75 = .ok (.iconst 1, 1) := by decide +kernel
theorem dX8_leavesIgnored_76 : decode cX8_leavesIgnored 76 = .ok (.istore_n 1, 1) := by decide +kernel
theorem dX8_leavesIgnored_77 : decode cX8_leavesIgnored 77 = .ok (.iinc 2 1, 3) := by decide +kernel
theorem dX8_leavesIgnored_80 : decode cX8_leavesIgnored 80 = .ok (.goto (-70), 3) := by decide +kernel
theorem dX8_leavesIgnored_83 : decode cX8_leavesIgnored 83 = .ok (.goto (-81), 3) := by decide +kernel
theorem dX8_leavesIgnored_86 : decode cX8_leavesIgnored 86 = .ok (.return_, 1) := by decide +kernel
theorem dX8_sync_0 : decode cX8_sync 0 = .ok (.aload_n 0, 1) := by decide +kernel
theorem dX8_sync_1 : decode cX8_sync 1 = .ok (.aload_n 0, 1) := by decide +kernel
theorem dX8_sync_2 : decode cX8_sync 2 = .ok (.getfield 288, 3) := by decide +kernel
theorem dX8_sync_5 : decode cX8_sync 5 = .ok (.invokevirtual 291, 3) := by decide +kernel
theorem dX8_sync_8 : decode cX8_sync 8 = .ok (.aload_n 0, 1) := by decide +kernel
theorem dX8_sync_9 : decode cX8_sync 9 = .ok (.iconst 0, 1) := by decide +kernel
theorem dX8_sync_10 : decode cX8_sync 10 = .ok (.invokevirtual 309, 3) := by decide +kernel
theorem dX8_sync_13 : decode cX8_sync 13 = .ok (.aload_n 0, 1) := by decide +kernel
theorem dX8_sync_14 : decode cX8_sync 14 = .ok (.getfield 297, 3) := by decide +kernel
theorem dX8_sync_17 : decode cX8_sync 17 = .ok (.istore_n 1, 1) := by decide +kernel
theorem dX8_sync_18 : decode cX8_sync 18 = .ok (.aload_n 0, 1) := by decide +kernel
theorem dX8_sync_19 : decode cX8_sync 19 = .ok (.iconst 1, 1) := by decide +kernel
theorem dX8_sync_20 : decode cX8_sync 20 = .ok (.invokevirtual 309, 3) := by decide +kernel
theorem dX8_sync_23 : decode cX8_sync 23 = .ok (.iload_n 1, 1) := by decide +kernel
theorem dX8_sync_24 : decode cX8_sync 24 = .ok (.aload_n 0, 1) := by decide +kernel
theorem dX8_sync_25 : decode cX8_sync 25 = .ok (.getfield 297, 3) := by decide +kernel
theorem dX8_sync_28 : decode cX8_sync 28 = .ok (.iadd, 1) := by decide +kernel
theorem dX8_sync_29 : decode cX8_sync 29 = .ok (.istore_n 1, 1) := by decide +kernel
theorem dX8_sync_30 : decode cX8_sync 30 = .ok (.iconst 0, 1) := by decide +kernel
theorem dX8_sync_31 : decode cX8_sync 31 = .ok (.istore_n 2, 1) := by decide +kernel
theorem dX8_sync_32 : decode cX8_sync 32 = .ok (.iload_n 2, 1) := by decide +kernel
theorem dX8_sync_33 : decode cX8_sync 33 = .ok (.iconst 3, 1) := by decide +kernel
theorem dX8_sync_34 : decode cX8_sync 34 = .ok (.if_icmp .ge 14, 3) := by decide +kernel
theorem dX8_sync_37 : decode cX8_sync 37 = .ok (.aload_n 0, 1) := by decide +kernel
theorem dX8_sync_38 : decode cX8_sync 38 = .ok (.iload_n 2, 1) := by decide +kernel
theorem dX8_sync_39 : decode cX8_sync 39 = .ok (.invokevirtual 316, 3) := by decide +kernel
theorem dX8_sync_42 : decode cX8_sync 42 = .ok (.iinc 2 1, 3) := by decide +kernel
theorem dX8_sync_45 : decode cX8_sync 45 = .ok (.goto (-13), 3) := by decide +kernel
theorem dX8_sync_48 : decode cX8_sync 48 = .ok (.aload_n 0, 1) := by decide +kernel
theorem dX8_sync_49 : decode cX8_sync 49 = .ok (.invokevirtual 319, 3) := by decide +kernel
theorem dX8_sync_52 : decode cX8_sync 52 = .ok (.aload_n 0, 1) := by decide +kernel
theorem dX8_sync_53 : decode cX8_sync 53 = .ok (.getfield 130, 3) := by decide +kernel
theorem dX8_sync_56 : decode cX8_sync 56 = .ok (.istore_n 2, 1) := by decide +kernel
theorem dX8_sync_57 : decode cX8_sync 57 = .ok (.iload_n 2, 1) := by decide +kernel
theorem dX8_sync_58 : decode cX8_sync 58 = .ok (.aload_n 0, 1) := by decide +kernel
theorem dX8_sync_59 : decode cX8_sync 59 = .ok (.getfield 260, 3) := by decide +kernel
theorem dX8_sync_62 : decode cX8_sync 62 = .ok (.if_icmp .ge 16, 3) := by decide +kernel
theorem dX8_sync_65 : decode cX8_sync 65 = .ok (.aload_n 0, 1) := by decide +kernel
theorem dX8_sync_66 : decode cX8_sync 66 = .ok (.getfield 9, 3) := by decide +kernel
theorem dX8_sync_69 : decode cX8_sync 69 = .ok (.iload_n 2, 1) := by decide +kernel
theorem dX8_sync_70 : decode cX8_sync 70 = .ok (.iconst 0, 1) := by decide +kernel
theorem dX8_sync_71 : decode cX8_sync 71 = .ok (.bastore, 1) := by decide +kernel
theorem dX8_sync_72 : decode cX8_sync 72 = .ok (.iinc 2 1, 3) := by decide +kernel
theorem dX8_sync_75 : decode cX8_sync 75 = .ok (.goto (-18), 3) := by decide +kernel
theorem dX8_sync_78 : decode cX8_sync 78 = .ok (.aload_n 0, 1) := by decide +kernel
theorem dX8_sync_79 : decode cX8_sync 79 = .ok (.aload_n 0, 1) := by decide +kernel
theorem dX8_sync_80 : decode cX8_sync 80 = .ok (.getfield 260, 3) := by decide +kernel
theorem dX8_sync_83 : decode cX8_sync 83 = .ok (.putfield 130, 3) := by decide +kernel
theorem dX8_sync_86 : decode cX8_sync 86 = .ok (.iload_n 1, 1) := by decide +kernel
theorem dX8_sync_87 : decode cX8_sync 87 = .ok (.ireturn, 1) := by decide +kernel
theorem dX8_keep_0 : decode cX8_keep 0 = .ok (.iconst 0, 1) := by decide +kernel
theorem dX8_keep_1 : decode cX8_keep 1 = .ok (.istore_n 1, 1) := by decide +kernel
theorem dX8_keep_2 : decode cX8_keep 2 = .ok (.iload_n 1, 1) := by decide +kernel
theorem dX8_keep_3 : decode cX8_keep 3 = .ok (.iconst 3, 1) := by decide +kernel
theorem dX8_keep_4 : decode cX8_keep 4 = .ok (.if_icmp .ge 85, 3) := by decide +kernel
theorem dX8_keep_7 : decode cX8_keep 7 = .ok (.aload_n 0, 1) := by decide +kernel
theorem dX8_keep_8 : decode cX8_keep 8 = .ok (.getfield 15, 3) := by decide +kernel
theorem dX8_keep_11 : decode cX8_keep 11 = .ok (.iload_n 1, 1) := by decide +kernel
theorem dX8_keep_12 : decode cX8_keep 12 = .ok (.aaload, 1) := by decide +kernel
theorem dX8_keep_13 : decode cX8_keep 13 = .ok (.iconst 0, 1) := by decide +kernel
theorem dX8_keep_14 : decode cX8_keep 14 = .ok (.aload_n 0, 1) := by decide +kernel
theorem dX8_keep_15 : decode cX8_keep 15 = .ok (.getfield 85, 3) := by decide +kernel
theorem dX8_keep_18 : decode cX8_keep 18 = .ok (.iload_n 1, 1) := by decide +kernel
theorem dX8_keep_19 : decode cX8_keep 19 = .ok (.aaload, 1) := by decide +kernel
theorem dX8_keep_20 : decode cX8_keep 20 = .ok (.iconst 0, 1) := by decide +kernel
theorem dX8_keep_21 : decode cX8_keep 21 = .ok (.bipush 30, 2) := by decide +kernel
theorem dX8_keep_23 : decode cX8_keep 23 = .ok (.invokestatic 322, 3) := by decide +kernel
theorem dX8_keep_26 : decode cX8_keep 26 = .ok (.aload_n 0, 1) := by decide +kernel
theorem dX8_keep_27 : decode cX8_keep 27 = .ok (.getfield 20, 3) := by decide +kernel
theorem dX8_keep_30 : decode cX8_keep 30 = .ok (.iload_n 1, 1) := by decide +kernel
theorem dX8_keep_31 : decode cX8_keep 31 = .ok (.aaload, 1) := by decide +kernel
theorem dX8_keep_32 : decode cX8_keep 32 = .ok (.iconst 0, 1) := by decide +kernel
theorem dX8_keep_33 : decode cX8_keep 33 = .ok (.aload_n 0, 1) := by decide +kernel
theorem dX8_keep_34 : decode cX8_keep 34 = .ok (.getfield 88, 3) := by decide +kernel
theorem dX8_keep_37 : decode cX8_keep 37 = .ok (.iload_n 1, 1) := by decide +kernel
theorem dX8_keep_38 : decode cX8_keep 38 = .ok (.aaload, 1) := by decide +kernel
theorem dX8_keep_39 : decode cX8_keep 39 = .ok (.iconst 0, 1) := by decide +kernel
theorem dX8_keep_40 : decode cX8_keep 40 = .ok (.bipush 30, 2) := by decide +kernel
theorem dX8_keep_42 : decode cX8_keep 42 = .ok (.invokestatic 322, 3) := by decide +kernel
theorem dX8_keep_45 : decode cX8_keep 45 = .ok (.aload_n 0, 1) := by decide +kernel
theorem dX8_keep_46 : decode cX8_keep 46 = .ok (.getfield 23, 3) := by decide +kernel
theorem dX8_keep_49 : decode cX8_keep 49 = .ok (.iload_n 1, 1) := by decide +kernel
theorem dX8_keep_50 : decode cX8_keep 50 = .ok (.aaload, 1) := by decide +kernel
theorem dX8_keep_51 : decode cX8_keep 51 = .ok (.iconst 0, 1) := by decide +kernel
theorem dX8_keep_52 : decode cX8_keep 52 = .ok (.aload_n 0, 1) := by decide +kernel
theorem dX8_keep_53 : decode cX8_keep 53 = .ok (.getfield 91, 3) := by decide +kernel
theorem dX8_keep_56 : decode cX8_keep 56 = .ok (.iload_n 1, 1) := by decide +kernel
theorem dX8_keep_57 : decode cX8_keep 57 = .ok (.aaload, 1) := by decide +kernel
theorem dX8_keep_58 : decode cX8_keep 58 = .ok (.iconst 0, 1) := by decide +kernel
theorem dX8_keep_59 : decode cX8_keep 59 = .ok (.bipush 30, 2) := by decide +kernel
theorem dX8_keep_61 : decode cX8_keep 61 = .ok (.invokestatic 322, 3) := by decide +kernel
theorem dX8_keep_64 : decode cX8_keep 64 = .ok (.aload_n 0, 1) := by decide +kernel
theorem dX8_keep_65 : decode cX8_keep 65 = .ok (.getfield 26, 3) := by decide +kernel
theorem dX8_keep_68 : decode cX8_keep 68 = .ok (.iload_n 1, 1) := by decide +kernel
theorem dX8_keep_69 : decode cX8_keep 69 = .ok (.aaload, 1) := by decide +kernel
theorem dX8_keep_70 : decode cX8_keep 70 = .ok (.iconst 0, 1) := by decide +kernel
theorem dX8_keep_71 : decode cX8_keep 71 = .ok (.aload_n 0, 1) := by decide +kernel
theorem dX8_keep_72 : decode cX8_keep 72 = .ok (.getfield 94, 3) := by decide +kernel
theorem dX8_keep_75 : decode cX8_keep 75 = .ok (.iload_n 1, 1) := by decide +kernel
theorem dX8_keep_76 : decode cX8_keep 76 = .ok (.aaload, 1) := by decide +kernel
theorem dX8_keep_77 : decode cX8_keep 77 = .ok (.iconst 0, 1) := by decide +kernel
theorem dX8_keep_78 : decode cX8_keep 78 = .ok (.bipush 30, 2) := by decide +kernel
theorem dX8_keep_80 : decode cX8_keep 80 = .ok (.invokestatic 322, 3) := by decide +kernel
theorem dX8_keep_83 : decode cX8_keep 83 = .ok (.iinc 1 1, 3) := by decide +kernel
theorem dX8_keep_86 : decode cX8_keep 86 = .ok (.goto (-84), 3) := by decide +kernel
theorem dX8_keep_89 : decode cX8_keep 89 = .ok (.return_, 1) := by decide +kernel
theorem dX8_layBack_0 : decode cX8_layBack 0 = .ok (.iconst 0, 1) := by decide +kernel
theorem dX8_layBack_1 : decode cX8_layBack 1 = .ok (.istore_n 1, 1) := by decide +kernel
theorem dX8_layBack_2 : decode cX8_layBack 2 = .ok (.iload_n 1, 1) := by decide +kernel
theorem dX8_layBack_3 : decode cX8_layBack 3 = .ok (.iconst 3, 1) := by decide +kernel
theorem dX8_layBack_4 : decode cX8_layBack 4 = .ok (.if_icmp .ge 85, 3) := by decide +kernel
theorem dX8_layBack_7 : decode cX8_layBack 7 = .ok (.aload_n 0, 1) := by decide +kernel
theorem dX8_layBack_8 : decode cX8_layBack 8 = .ok (.getfield 85, 3) := by decide +kernel
theorem dX8_layBack_11 : decode cX8_layBack 11 = .ok (.iload_n 1, 1) := by decide +kernel
theorem dX8_layBack_12 : decode cX8_layBack 12 = .ok (.aaload, 1) := by decide +kernel
theorem dX8_layBack_13 : decode cX8_layBack 13 = .ok (.iconst 0, 1) := by decide +kernel
theorem dX8_layBack_14 : decode cX8_layBack 14 = .ok (.aload_n 0, 1) := by decide +kernel
theorem dX8_layBack_15 : decode cX8_layBack 15 = .ok (.getfield 15, 3) := by decide +kernel
theorem dX8_layBack_18 : decode cX8_layBack 18 = .ok (.iload_n 1, 1) := by decide +kernel
theorem dX8_layBack_19 : decode cX8_layBack 19 = .ok (.aaload, 1) := by decide +kernel
theorem dX8_layBack_20 : decode cX8_layBack 20 = .ok (.iconst 0, 1) := by decide +kernel
theorem dX8_layBack_21 : decode cX8_layBack 21 = .ok (.bipush 30, 2) := by decide +kernel
theorem dX8_layBack_23 : decode cX8_layBack 23 = .ok (.invokestatic 322, 3) := by decide +kernel
theorem dX8_layBack_26 : decode cX8_layBack 26 = .ok (.aload_n 0, 1) := by decide +kernel
theorem dX8_layBack_27 : decode cX8_layBack 27 = .ok (.getfield 88, 3) := by decide +kernel
theorem dX8_layBack_30 : decode cX8_layBack 30 = .ok (.iload_n 1, 1) := by decide +kernel
theorem dX8_layBack_31 : decode cX8_layBack 31 = .ok (.aaload, 1) := by decide +kernel
theorem dX8_layBack_32 : decode cX8_layBack 32 = .ok (.iconst 0, 1) := by decide +kernel
theorem dX8_layBack_33 : decode cX8_layBack 33 = .ok (.aload_n 0, 1) := by decide +kernel
theorem dX8_layBack_34 : decode cX8_layBack 34 = .ok (.getfield 20, 3) := by decide +kernel
theorem dX8_layBack_37 : decode cX8_layBack 37 = .ok (.iload_n 1, 1) := by decide +kernel
theorem dX8_layBack_38 : decode cX8_layBack 38 = .ok (.aaload, 1) := by decide +kernel
theorem dX8_layBack_39 : decode cX8_layBack 39 = .ok (.iconst 0, 1) := by decide +kernel
theorem dX8_layBack_40 : decode cX8_layBack 40 = .ok (.bipush 30, 2) := by decide +kernel
theorem dX8_layBack_42 : decode cX8_layBack 42 = .ok (.invokestatic 322, 3) := by decide +kernel
theorem dX8_layBack_45 : decode cX8_layBack 45 = .ok (.aload_n 0, 1) := by decide +kernel
theorem dX8_layBack_46 : decode cX8_layBack 46 = .ok (.getfield 91, 3) := by decide +kernel
theorem dX8_layBack_49 : decode cX8_layBack 49 = .ok (.iload_n 1, 1) := by decide +kernel
theorem dX8_layBack_50 : decode cX8_layBack 50 = .ok (.aaload, 1) := by decide +kernel
theorem dX8_layBack_51 : decode cX8_layBack 51 = .ok (.iconst 0, 1) := by decide +kernel
theorem dX8_layBack_52 : decode cX8_layBack 52 = .ok (.aload_n 0, 1) := by decide +kernel
theorem dX8_layBack_53 : decode cX8_layBack 53 = .ok (.getfield 23, 3) := by decide +kernel
theorem dX8_layBack_56 : decode cX8_layBack 56 = .ok (.iload_n 1, 1) := by decide +kernel
theorem dX8_layBack_57 : decode cX8_layBack 57 = .ok (.aaload, 1) := by decide +kernel
theorem dX8_layBack_58 : decode cX8_layBack 58 = .ok (.iconst 0, 1) := by decide +kernel
theorem dX8_layBack_59 : decode cX8_layBack 59 = .ok (.bipush 30, 2) := by decide +kernel
theorem dX8_layBack_61 : decode cX8_layBack 61 = .ok (.invokestatic 322, 3) := by decide +kernel
theorem dX8_layBack_64 : decode cX8_layBack 64 = .ok (.aload_n 0, 1) := by decide +kernel
theorem dX8_layBack_65 : decode cX8_layBack 65 = .ok (.getfield 94, 3) := by decide +kernel
theorem dX8_layBack_68 : decode cX8_layBack 68 = .ok (.iload_n 1, 1) := by decide +kernel
theorem dX8_layBack_69 : decode cX8_layBack 69 = .ok (.aaload, 1) := by decide +kernel
theorem dX8_layBack_70 : decode cX8_layBack 70 = .ok (.iconst 0, 1) := by decide +kernel
theorem dX8_layBack_71 : decode cX8_layBack 71 = .ok (.aload_n 0, 1) := by decide +kernel
theorem dX8_layBack_72 : decode cX8_layBack 72 = .ok (.getfield 26, 3) := by decide +kernel
theorem dX8_layBack_75 : decode cX8_layBack 75 = .ok (.iload_n 1, 1) := by decide +kernel
theorem dX8_layBack_76 : decode cX8_layBack 76 = .ok (.aaload, 1) := by decide +kernel
theorem dX8_layBack_77 : decode cX8_layBack 77 = .ok (.iconst 0, 1) := by decide +kernel
theorem dX8_layBack_78 : decode cX8_layBack 78 = .ok (.bipush 30, 2) := by decide +kernel
theorem dX8_layBack_80 : decode cX8_layBack 80 = .ok (.invokestatic 322, 3) := by decide +kernel
theorem dX8_layBack_83 : decode cX8_layBack 83 = .ok (.iinc 1 1, 3) := by decide +kernel
theorem dX8_layBack_86 : decode cX8_layBack 86 = .ok (.goto (-84), 3) := by decide +kernel
theorem dX8_layBack_89 : decode cX8_layBack 89 = .ok (.return_, 1) := by decide +kernel
theorem dX8_spared_0 : decode cX8_spared 0 = .ok (.iload_n 1, 1) := by decide +kernel
theorem dX8_spared_1 : decode cX8_spared 1 = .ok (.invokestatic 151, 3) := by decide +kernel
theorem dX8_spared_4 : decode cX8_spared 4 = .ok (.ifCond .eq 11, 3) := by decide +kernel
theorem dX8_spared_7 : decode cX8_spared 7 = .ok (.aload_n 0, 1) := by decide +kernel
theorem dX8_spared_8 : decode cX8_spared 8 = .ok (.iload_n 2, 1) := by decide +kernel
theorem dX8_spared_9 : decode cX8_spared 9 = .ok (.invokevirtual 137, 3) := by decide +kernel
theorem dX8_spared_12 : decode cX8_spared 12 = .ok (.ifCond .ne 6, 3) := by decide +kernel
theorem dX8_spared_15 : decode cX8_spared 15 = .ok (.bipush (-2), 2) := by decide +kernel
theorem dX8_spared_17 : decode cX8_spared 17 = .ok (.ireturn, 1) := by decide +kernel
theorem dX8_spared_18 : decode cX8_spared 18 = .ok (.aload_n 0, 1) := by decide +kernel
theorem dX8_spared_19 : decode cX8_spared 19 = .ok (.invokevirtual 196, 3) := by decide +kernel
theorem dX8_spared_22 : decode cX8_spared 22 = .ok (.aload_n 0, 1) := by decide +kernel
theorem dX8_spared_23 : decode cX8_spared 23 = .ok (.iload_n 1, 1) := by decide +kernel
theorem dX8_spared_24 : decode cX8_spared 24 = .ok (.iload_n 2, 1) := by decide +kernel
theorem dX8_spared_25 : decode cX8_spared 25 = .ok (.invokevirtual 199, 3) := by decide +kernel
theorem dX8_spared_28 : decode cX8_spared 28 = .ok (.bipush 8, 2) := by decide +kernel
theorem dX8_spared_30 : decode cX8_spared 30 = .ok (.iand, 1) := by decide +kernel
theorem dX8_spared_31 : decode cX8_spared 31 = .ok (.ifCond .ne 6, 3) := by decide +kernel
theorem dX8_spared_34 : decode cX8_spared 34 = .ok (.bipush (-3), 2) := by decide +kernel
theorem dX8_spared_36 : decode cX8_spared 36 = .ok (.ireturn, 1) := by decide +kernel
theorem dX8_spared_37 : decode cX8_spared 37 = .ok (.aload_n 0, 1) := by decide +kernel
theorem dX8_spared_38 : decode cX8_spared 38 = .ok (.aload_n 0, 1) := by decide +kernel
theorem dX8_spared_39 : decode cX8_spared 39 = .ok (.getfield 288, 3) := by decide +kernel
theorem dX8_spared_42 : decode cX8_spared 42 = .ok (.invokevirtual 291, 3) := by decide +kernel
theorem dX8_spared_45 : decode cX8_spared 45 = .ok (.aload_n 0, 1) := by decide +kernel
theorem dX8_spared_46 : decode cX8_spared 46 = .ok (.getfield 249, 3) := by decide +kernel
theorem dX8_spared_49 : decode cX8_spared 49 = .ok (.istore_n 3, 1) := by decide +kernel
theorem dX8_spared_50 : decode cX8_spared 50 = .ok (.aload_n 0, 1) := by decide +kernel
theorem dX8_spared_51 : decode cX8_spared 51 = .ok (.getfield 26, 3) := by decide +kernel
theorem dX8_spared_54 : decode cX8_spared 54 = .ok (.iload_n 1, 1) := by decide +kernel
theorem dX8_spared_55 : decode cX8_spared 55 = .ok (.aaload, 1) := by decide +kernel
theorem dX8_spared_56 : decode cX8_spared 56 = .ok (.iload_n 2, 1) := by decide +kernel
theorem dX8_spared_57 : decode cX8_spared 57 = .ok (.iaload, 1) := by decide +kernel
theorem dX8_spared_58 : decode cX8_spared 58 = .ok (.istore 4, 2) := by decide +kernel
theorem dX8_spared_60 : decode cX8_spared 60 = .ok (.aload_n 0, 1) := by decide +kernel
theorem dX8_spared_61 : decode cX8_spared 61 = .ok (.getfield 26, 3) := by decide +kernel
theorem dX8_spared_64 : decode cX8_spared 64 = .ok (.iload_n 1, 1) := by decide +kernel
theorem dX8_spared_65 : decode cX8_spared 65 = .ok (.aaload, 1) := by decide +kernel
theorem dX8_spared_66 : decode cX8_spared 66 = .ok (.iload_n 2, 1) := by decide +kernel
theorem dX8_spared_67 : decode cX8_spared 67 = .ok (.aload_n 0, 1) := by decide +kernel
theorem dX8_spared_68 : decode cX8_spared 68 = .ok (.getfield 26, 3) := by decide +kernel
theorem dX8_spared_71 : decode cX8_spared 71 = .ok (.iconst 2, 1) := by decide +kernel
theorem dX8_spared_72 : decode cX8_spared 72 = .ok (.aaload, 1) := by decide +kernel
theorem dX8_spared_73 : decode cX8_spared 73 = .ok (.iload_n 2, 1) := by decide +kernel
theorem dX8_spared_74 : decode cX8_spared 74 = .ok (.iaload, 1) := by decide +kernel
theorem dX8_spared_75 : decode cX8_spared 75 = .ok (.iastore, 1) := by decide +kernel
theorem dX8_spared_76 : decode cX8_spared 76 = .ok (.aload_n 0, 1) := by decide +kernel
theorem dX8_spared_77 : decode cX8_spared 77 = .ok (.aload_n 0, 1) := by decide +kernel
theorem dX8_spared_78 : decode cX8_spared 78 = .ok (.getfield 288, 3) := by decide +kernel
theorem dX8_spared_81 : decode cX8_spared 81 = .ok (.invokevirtual 291, 3) := by decide +kernel
theorem dX8_spared_84 : decode cX8_spared 84 = .ok (.aload_n 0, 1) := by decide +kernel
theorem dX8_spared_85 : decode cX8_spared 85 = .ok (.getfield 26, 3) := by decide +kernel
theorem dX8_spared_88 : decode cX8_spared 88 = .ok (.iload_n 1, 1) := by decide +kernel
theorem dX8_spared_89 : decode cX8_spared 89 = .ok (.aaload, 1) := by decide +kernel
theorem dX8_spared_90 : decode cX8_spared 90 = .ok (.iload_n 2, 1) := by decide +kernel
theorem dX8_spared_91 : decode cX8_spared 91 = .ok (.iload 4, 2) := by decide +kernel
theorem dX8_spared_93 : decode cX8_spared 93 = .ok (.iastore, 1) := by decide +kernel
theorem dX8_spared_94 : decode cX8_spared 94 = .ok (.iload_n 3, 1) := by decide +kernel
theorem dX8_spared_95 : decode cX8_spared 95 = .ok (.aload_n 0, 1) := by decide +kernel
theorem dX8_spared_96 : decode cX8_spared 96 = .ok (.getfield 249, 3) := by decide +kernel
theorem dX8_spared_99 : decode cX8_spared 99 = .ok (.isub, 1) := by decide +kernel
theorem dX8_spared_100 : decode cX8_spared 100 = .ok (.ireturn, 1) := by decide +kernel
theorem dX8_draw_0 : decode cX8_draw 0 = .ok (.aload_n 0, 1) := by decide +kernel
theorem dX8_draw_1 : decode cX8_draw 1 = .ok (.aload_n 0, 1) := by decide +kernel
theorem dX8_draw_2 : decode cX8_draw 2 = .ok (.getfield 328, 3) := by decide +kernel
theorem dX8_draw_5 : decode cX8_draw 5 = .ok (.ldc_w 331, 3) := by decide +kernel
theorem dX8_draw_8 : decode cX8_draw 8 = .ok (.imul, 1) := by decide +kernel
theorem dX8_draw_9 : decode cX8_draw 9 = .ok (.sipush 12345, 3) := by decide +kernel
theorem dX8_draw_12 : decode cX8_draw 12 = .ok (.iadd, 1) := by decide +kernel
theorem dX8_draw_13 : decode cX8_draw 13 = .ok (.putfield 328, 3) := by decide +kernel
theorem dX8_draw_16 : decode cX8_draw 16 = .ok (.aload_n 0, 1) := by decide +kernel
theorem dX8_draw_17 : decode cX8_draw 17 = .ok (.getfield 328, 3) := by decide +kernel
theorem dX8_draw_20 : decode cX8_draw 20 = .ok (.bipush 9, 2) := by decide +kernel
theorem dX8_draw_22 : decode cX8_draw 22 = .ok (.iushr, 1) := by decide +kernel
theorem dX8_draw_23 : decode cX8_draw 23 = .ok (.iload_n 1, 1) := by decide +kernel
theorem dX8_draw_24 : decode cX8_draw 24 = .ok (.irem, 1) := by decide +kernel
theorem dX8_draw_25 : decode cX8_draw 25 = .ok (.ireturn, 1) := by decide +kernel
theorem dX8_byLot_0 : decode cX8_byLot 0 = .ok (.aload_n 0, 1) := by decide +kernel
theorem dX8_byLot_1 : decode cX8_byLot 1 = .ok (.getfield 145, 3) := by decide +kernel
theorem dX8_byLot_4 : decode cX8_byLot 4 = .ok (.istore_n 3, 1) := by decide +kernel
theorem dX8_byLot_5 : decode cX8_byLot 5 = .ok (.aload_n 0, 1) := by decide +kernel
theorem dX8_byLot_6 : decode cX8_byLot 6 = .ok (.getfield 29, 3) := by decide +kernel
theorem dX8_byLot_9 : decode cX8_byLot 9 = .ok (.istore 4, 2) := by decide +kernel
theorem dX8_byLot_11 : decode cX8_byLot 11 = .ok (.aload_n 0, 1) := by decide +kernel
theorem dX8_byLot_12 : decode cX8_byLot 12 = .ok (.getfield 148, 3) := by decide +kernel
theorem dX8_byLot_15 : decode cX8_byLot 15 = .ok (.istore 5, 2) := by decide +kernel
theorem dX8_byLot_17 : decode cX8_byLot 17 = .ok (.aload_n 0, 1) := by decide +kernel
theorem dX8_byLot_18 : decode cX8_byLot 18 = .ok (.invokevirtual 332, 3) := by decide +kernel
theorem dX8_byLot_21 : decode cX8_byLot 21 = .ok (.aload_n 0, 1) := by decide +kernel
theorem dX8_byLot_22 : decode cX8_byLot 22 = .ok (.iload_n 1, 1) := by decide +kernel
theorem dX8_byLot_23 : decode cX8_byLot 23 = .ok (.putfield 328, 3) := by decide +kernel
theorem dX8_byLot_26 : decode cX8_byLot 26 = .ok (.iconst 0, 1) := by decide +kernel
theorem dX8_byLot_27 : decode cX8_byLot 27 = .ok (.istore 6, 2) := by decide +kernel
theorem dX8_byLot_29 : decode cX8_byLot 29 = .ok (.iload 6, 2) := by decide +kernel
theorem dX8_byLot_31 : decode cX8_byLot 31 = .ok (.iload_n 2, 1) := by decide +kernel
theorem dX8_byLot_32 : decode cX8_byLot 32 = .ok (.if_icmp .ge 93, 3) := by decide +kernel
theorem dX8_byLot_35 : decode cX8_byLot 35 = .ok (.aload_n 0, 1) := by decide +kernel
theorem dX8_byLot_36 : decode cX8_byLot 36 = .ok (.iconst 2, 1) := by decide +kernel
theorem dX8_byLot_37 : decode cX8_byLot 37 = .ok (.invokevirtual 335, 3) := by decide +kernel
theorem dX8_byLot_40 : decode cX8_byLot 40 = .ok (.istore 7, 2) := by decide +kernel
theorem dX8_byLot_42 : decode cX8_byLot 42 = .ok (.aload_n 0, 1) := by decide +kernel
theorem dX8_byLot_43 : decode cX8_byLot 43 = .ok (.iconst 1, 1) := by decide +kernel
theorem dX8_byLot_44 : decode cX8_byLot 44 = .ok (.aload_n 0, 1) := by decide +kernel
theorem dX8_byLot_45 : decode cX8_byLot 45 = .ok (.getfield 130, 3) := by decide +kernel
theorem dX8_byLot_48 : decode cX8_byLot 48 = .ok (.invokestatic 167, 3) := by decide +kernel
theorem dX8_byLot_51 : decode cX8_byLot 51 = .ok (.invokevirtual 335, 3) := by decide +kernel
theorem dX8_byLot_54 : decode cX8_byLot 54 = .ok (.istore 8, 2) := by decide +kernel
theorem dX8_byLot_56 : decode cX8_byLot 56 = .ok (.aload_n 0, 1) := by decide +kernel
theorem dX8_byLot_57 : decode cX8_byLot 57 = .ok (.iconst 3, 1) := by decide +kernel
theorem dX8_byLot_58 : decode cX8_byLot 58 = .ok (.invokevirtual 335, 3) := by decide +kernel
theorem dX8_byLot_61 : decode cX8_byLot 61 = .ok (.istore 9, 2) := by decide +kernel
theorem dX8_byLot_63 : decode cX8_byLot 63 = .ok (.aload_n 0, 1) := by decide +kernel
theorem dX8_byLot_64 : decode cX8_byLot 64 = .ok (.bipush 50, 2) := by decide +kernel
theorem dX8_byLot_66 : decode cX8_byLot 66 = .ok (.invokevirtual 335, 3) := by decide +kernel
theorem dX8_byLot_69 : decode cX8_byLot 69 = .ok (.istore 10, 2) := by decide +kernel
theorem dX8_byLot_71 : decode cX8_byLot 71 = .ok (.iload 9, 2) := by decide +kernel
theorem dX8_byLot_73 : decode cX8_byLot 73 = .ok (.ifCond .ne 16, 3) := by decide +kernel
theorem dX8_byLot_76 : decode cX8_byLot 76 = .ok (.aload_n 0, 1) := by decide +kernel
theorem dX8_byLot_77 : decode cX8_byLot 77 = .ok (.iload 7, 2) := by decide +kernel
theorem dX8_byLot_79 : decode cX8_byLot 79 = .ok (.iload 8, 2) := by decide +kernel
theorem dX8_byLot_81 : decode cX8_byLot 81 = .ok (.iload 10, 2) := by decide +kernel
theorem dX8_byLot_83 : decode cX8_byLot 83 = .ok (.invokevirtual 338, 3) := by decide +kernel
theorem dX8_byLot_86 : decode cX8_byLot 86 = .ok (.goto 31, 3) := by decide +kernel
theorem dX8_byLot_89 : decode cX8_byLot 89 = .ok (.iload 9, 2) := by decide +kernel
theorem dX8_byLot_91 : decode cX8_byLot 91 = .ok (.iconst 1, 1) := by decide +kernel
theorem dX8_byLot_92 : decode cX8_byLot 92 = .ok (.if_icmp .ne 17, 3) := by decide +kernel
theorem dX8_byLot_95 : decode cX8_byLot 95 = .ok (.aload_n 0, 1) := by decide +kernel
theorem dX8_byLot_96 : decode cX8_byLot 96 = .ok (.iload 7, 2) := by decide +kernel
theorem dX8_byLot_98 : decode cX8_byLot 98 = .ok (.iload 8, 2) := by decide +kernel
theorem dX8_byLot_100 : decode cX8_byLot 100 = .ok (.iconst (-1), 1) := by decide +kernel
theorem dX8_byLot_101 : decode cX8_byLot 101 = .ok (.iload 10, 2) := by decide +kernel
theorem dX8_byLot_103 : decode cX8_byLot 103 = .ok (.invokevirtual 341, 3) := by decide +kernel
theorem dX8_byLot_106 : decode cX8_byLot 106 = .ok (.goto 11, 3) := by decide +kernel
theorem dX8_byLot_109 : decode cX8_byLot 109 = .ok (.aload_n 0, 1) := by decide +kernel
theorem dX8_byLot_110 : decode cX8_byLot 110 = .ok (.iload 7, 2) := by decide +kernel
theorem dX8_byLot_112 : decode cX8_byLot 112 = .ok (.iload 8, 2) := by decide +kernel
theorem dX8_byLot_114 : decode cX8_byLot 114 = .ok (.invokevirtual 345, 3) := by decide +kernel
theorem dX8_byLot_117 : decode cX8_byLot 117 = .ok (.istore 11, 2) := by decide +kernel
theorem dX8_byLot_119 : decode cX8_byLot 119 = .ok (.iinc 6 1, 3) := by decide +kernel
theorem dX8_byLot_122 : decode cX8_byLot 122 = .ok (.goto (-93), 3) := by decide +kernel
theorem dX8_byLot_125 : decode cX8_byLot 125 = .ok (.aload_n 0, 1) := by decide +kernel
theorem dX8_byLot_126 : decode cX8_byLot 126 = .ok (.aload_n 0, 1) := by decide +kernel
theorem dX8_byLot_127 : decode cX8_byLot 127 = .ok (.getfield 288, 3) := by decide +kernel
theorem dX8_byLot_130 : decode cX8_byLot 130 = .ok (.invokevirtual 291, 3) := by decide +kernel
theorem dX8_byLot_133 : decode cX8_byLot 133 = .ok (.aload_n 0, 1) := by decide +kernel
theorem dX8_byLot_134 : decode cX8_byLot 134 = .ok (.invokevirtual 348, 3) := by decide +kernel
theorem dX8_byLot_137 : decode cX8_byLot 137 = .ok (.aload_n 0, 1) := by decide +kernel
theorem dX8_byLot_138 : decode cX8_byLot 138 = .ok (.iload_n 3, 1) := by decide +kernel
theorem dX8_byLot_139 : decode cX8_byLot 139 = .ok (.putfield 145, 3) := by decide +kernel
theorem dX8_byLot_142 : decode cX8_byLot 142 = .ok (.aload_n 0, 1) := by decide +kernel
theorem dX8_byLot_143 : decode cX8_byLot 143 = .ok (.iload 4, 2) := by decide +kernel
theorem dX8_byLot_145 : decode cX8_byLot 145 = .ok (.putfield 29, 3) := by decide +kernel
theorem dX8_byLot_148 : decode cX8_byLot 148 = .ok (.aload_n 0, 1) := by decide +kernel
theorem dX8_byLot_149 : decode cX8_byLot 149 = .ok (.iload 5, 2) := by decide +kernel
theorem dX8_byLot_151 : decode cX8_byLot 151 = .ok (.putfield 148, 3) := by decide +kernel
theorem dX8_byLot_154 : decode cX8_byLot 154 = .ok (.aload_n 0, 1) := by decide +kernel
theorem dX8_byLot_155 : decode cX8_byLot 155 = .ok (.getfield 249, 3) := by decide +kernel
theorem dX8_byLot_158 : decode cX8_byLot 158 = .ok (.ireturn, 1) := by decide +kernel
theorem dX8_drawn_0 : decode cX8_drawn 0 = .ok (.iload_n 2, 1) := by decide +kernel
theorem dX8_drawn_1 : decode cX8_drawn 1 = .ok (.iconst 0, 1) := by decide +kernel
theorem dX8_drawn_2 : decode cX8_drawn 2 = .ok (.bipush 20, 2) := by decide +kernel
theorem dX8_drawn_4 : decode cX8_drawn 4 = .ok (.invokestatic 133, 3) := by decide +kernel
theorem dX8_drawn_7 : decode cX8_drawn 7 = .ok (.ifCond .eq 12, 3) := by decide +kernel
theorem dX8_drawn_10 : decode cX8_drawn 10 = .ok (.aload_n 0, 1) := by decide +kernel
theorem dX8_drawn_11 : decode cX8_drawn 11 = .ok (.iload_n 1, 1) := by decide +kernel
theorem dX8_drawn_12 : decode cX8_drawn 12 = .ok (.iload_n 2, 1) := by decide +kernel
theorem dX8_drawn_13 : decode cX8_drawn 13 = .ok (.invokevirtual 351, 3) := by decide +kernel
theorem dX8_drawn_16 : decode cX8_drawn 16 = .ok (.goto 5, 3) := by decide +kernel
theorem dX8_drawn_19 : decode cX8_drawn 19 = .ok (.bipush (-2), 2) := by decide +kernel
theorem dX8_drawn_21 : decode cX8_drawn 21 = .ok (.ireturn, 1) := by decide +kernel
theorem dX8_common_0 : decode cX8_common 0 = .ok (.iload_n 1, 1) := by decide +kernel
theorem dX8_common_1 : decode cX8_common 1 = .ok (.ifCond .ne 7, 3) := by decide +kernel
theorem dX8_common_4 : decode cX8_common 4 = .ok (.iload_n 0, 1) := by decide +kernel
theorem dX8_common_5 : decode cX8_common 5 = .ok (.goto 10, 3) := by decide +kernel
theorem dX8_common_8 : decode cX8_common 8 = .ok (.iload_n 1, 1) := by decide +kernel
theorem dX8_common_9 : decode cX8_common 9 = .ok (.iload_n 0, 1) := by decide +kernel
theorem dX8_common_10 : decode cX8_common 10 = .ok (.iload_n 1, 1) := by decide +kernel
theorem dX8_common_11 : decode cX8_common 11 = .ok (.irem, 1) := by decide +kernel
theorem dX8_common_12 : decode cX8_common 12 = .ok (.invokestatic 354, 3) := by decide +kernel
theorem dX8_common_15 : decode cX8_common 15 = .ok (.ireturn, 1) := by decide +kernel
theorem dX8_chance_0 : decode cX8_chance 0 = .ok (.iload_n 2, 1) := by decide +kernel
theorem dX8_chance_1 : decode cX8_chance 1 = .ok (.iconst 1, 1) := by decide +kernel
theorem dX8_chance_2 : decode cX8_chance 2 = .ok (.bipush 10, 2) := by decide +kernel
theorem dX8_chance_4 : decode cX8_chance 4 = .ok (.invokestatic 133, 3) := by decide +kernel
theorem dX8_chance_7 : decode cX8_chance 7 = .ok (.ifCond .eq 12, 3) := by decide +kernel
theorem dX8_chance_10 : decode cX8_chance 10 = .ok (.iload_n 3, 1) := by decide +kernel
theorem dX8_chance_11 : decode cX8_chance 11 = .ok (.iconst 0, 1) := by decide +kernel
theorem dX8_chance_12 : decode cX8_chance 12 = .ok (.iconst 1, 1) := by decide +kernel
theorem dX8_chance_13 : decode cX8_chance 13 = .ok (.invokestatic 133, 3) := by decide +kernel
theorem dX8_chance_16 : decode cX8_chance 16 = .ok (.ifCond .ne 6, 3) := by decide +kernel
theorem dX8_chance_19 : decode cX8_chance 19 = .ok (.bipush (-2), 2) := by decide +kernel
theorem dX8_chance_21 : decode cX8_chance 21 = .ok (.ireturn, 1) := by decide +kernel
theorem dX8_chance_22 : decode cX8_chance 22 = .ok (.iconst 0, 1) := by decide +kernel
theorem dX8_chance_23 : decode cX8_chance 23 = .ok (.istore 4, 2) := by decide +kernel
theorem dX8_chance_25 : decode cX8_chance 25 = .ok (.iconst 0, 1) := by decide +kernel
theorem dX8_chance_26 : decode cX8_chance 26 = .ok (.istore 5, 2) := by decide +kernel
theorem dX8_chance_28 : decode cX8_chance 28 = .ok (.iload 5, 2) := by decide +kernel
theorem dX8_chance_30 : decode cX8_chance 30 = .ok (.iload_n 2, 1) := by decide +kernel
theorem dX8_chance_31 : decode cX8_chance 31 = .ok (.if_icmp .ge 25, 3) := by decide +kernel
theorem dX8_chance_34 : decode cX8_chance 34 = .ok (.aload_n 0, 1) := by decide +kernel
theorem dX8_chance_35 : decode cX8_chance 35 = .ok (.iload_n 1, 1) := by decide +kernel
theorem dX8_chance_36 : decode cX8_chance 36 = .ok (.iload 5, 2) := by decide +kernel
theorem dX8_chance_38 : decode cX8_chance 38 = .ok (.iadd, 1) := by decide +kernel
theorem dX8_chance_39 : decode cX8_chance 39 = .ok (.bipush 8, 2) := by decide +kernel
theorem dX8_chance_41 : decode cX8_chance 41 = .ok (.invokevirtual 351, 3) := by decide +kernel
theorem dX8_chance_44 : decode cX8_chance 44 = .ok (.ifCond .le 6, 3) := by decide +kernel
theorem dX8_chance_47 : decode cX8_chance 47 = .ok (.iinc 4 1, 3) := by decide +kernel
theorem dX8_chance_50 : decode cX8_chance 50 = .ok (.iinc 5 1, 3) := by decide +kernel
theorem dX8_chance_53 : decode cX8_chance 53 = .ok (.goto (-25), 3) := by decide +kernel
theorem dX8_chance_56 : decode cX8_chance 56 = .ok (.iload_n 3, 1) := by decide +kernel
theorem dX8_chance_57 : decode cX8_chance 57 = .ok (.ifCond .ne 8, 3) := by decide +kernel
theorem dX8_chance_60 : decode cX8_chance 60 = .ok (.iload 4, 2) := by decide +kernel
theorem dX8_chance_62 : decode cX8_chance 62 = .ok (.goto 4, 3) := by decide +kernel
theorem dX8_chance_65 : decode cX8_chance 65 = .ok (.iload_n 2, 1) := by decide +kernel
theorem dX8_chance_66 : decode cX8_chance 66 = .ok (.iload 4, 2) := by decide +kernel
theorem dX8_chance_68 : decode cX8_chance 68 = .ok (.iload_n 2, 1) := by decide +kernel
theorem dX8_chance_69 : decode cX8_chance 69 = .ok (.invokestatic 354, 3) := by decide +kernel
theorem dX8_chance_72 : decode cX8_chance 72 = .ok (.idiv, 1) := by decide +kernel
theorem dX8_chance_73 : decode cX8_chance 73 = .ok (.ireturn, 1) := by decide +kernel
theorem dX8_contentOn_0 : decode cX8_contentOn 0 = .ok (.aload_n 0, 1) := by decide +kernel
theorem dX8_contentOn_1 : decode cX8_contentOn 1 = .ok (.iload_n 2, 1) := by decide +kernel
theorem dX8_contentOn_2 : decode cX8_contentOn 2 = .ok (.invokevirtual 137, 3) := by decide +kernel
theorem dX8_contentOn_5 : decode cX8_contentOn 5 = .ok (.ifCond .eq 25, 3) := by decide +kernel
theorem dX8_contentOn_8 : decode cX8_contentOn 8 = .ok (.aload_n 0, 1) := by decide +kernel
theorem dX8_contentOn_9 : decode cX8_contentOn 9 = .ok (.getfield 15, 3) := by decide +kernel
theorem dX8_contentOn_12 : decode cX8_contentOn 12 = .ok (.iload_n 1, 1) := by decide +kernel
theorem dX8_contentOn_13 : decode cX8_contentOn 13 = .ok (.aaload, 1) := by decide +kernel
theorem dX8_contentOn_14 : decode cX8_contentOn 14 = .ok (.iload_n 2, 1) := by decide +kernel
theorem dX8_contentOn_15 : decode cX8_contentOn 15 = .ok (.baload, 1) := by decide +kernel
theorem dX8_contentOn_16 : decode cX8_contentOn 16 = .ok (.ifCond .eq 14, 3) := by decide +kernel
theorem dX8_contentOn_19 : decode cX8_contentOn 19 = .ok (.aload_n 0, 1) := by decide +kernel
theorem dX8_contentOn_20 : decode cX8_contentOn 20 = .ok (.getfield 26, 3) := by decide +kernel
theorem dX8_contentOn_23 : decode cX8_contentOn 23 = .ok (.iload_n 1, 1) := by decide +kernel
theorem dX8_contentOn_24 : decode cX8_contentOn 24 = .ok (.aaload, 1) := by decide +kernel
theorem dX8_contentOn_25 : decode cX8_contentOn 25 = .ok (.iload_n 2, 1) := by decide +kernel
theorem dX8_contentOn_26 : decode cX8_contentOn 26 = .ok (.iaload, 1) := by decide +kernel
theorem dX8_contentOn_27 : decode cX8_contentOn 27 = .ok (.goto 4, 3) := by decide +kernel
theorem dX8_contentOn_30 : decode cX8_contentOn 30 = .ok (.iconst (-1), 1) := by decide +kernel
theorem dX8_contentOn_31 : decode cX8_contentOn 31 = .ok (.ireturn, 1) := by decide +kernel
theorem dX8_otherwise_0 : decode cX8_otherwise 0 = .ok (.iconst 0, 1) := by decide +kernel
theorem dX8_otherwise_1 : decode cX8_otherwise 1 = .ok (.istore_n 3, 1) := by decide +kernel
theorem dX8_otherwise_2 : decode cX8_otherwise 2 = .ok (.iload_n 3, 1) := by decide +kernel
theorem dX8_otherwise_3 : decode cX8_otherwise 3 = .ok (.aload_n 0, 1) := by decide +kernel
theorem dX8_otherwise_4 : decode cX8_otherwise 4 = .ok (.getfield 121, 3) := by decide +kernel
theorem dX8_otherwise_7 : decode cX8_otherwise 7 = .ok (.iload_n 1, 1) := by decide +kernel
theorem dX8_otherwise_8 : decode cX8_otherwise 8 = .ok (.iaload, 1) := by decide +kernel
theorem dX8_otherwise_9 : decode cX8_otherwise 9 = .ok (.if_icmp .ge 28, 3) := by decide +kernel
theorem dX8_otherwise_12 : decode cX8_otherwise 12 = .ok (.aload_n 0, 1) := by decide +kernel
theorem dX8_otherwise_13 : decode cX8_otherwise 13 = .ok (.iload_n 2, 1) := by decide +kernel
theorem dX8_otherwise_14 : decode cX8_otherwise 14 = .ok (.iload_n 3, 1) := by decide +kernel
theorem dX8_otherwise_15 : decode cX8_otherwise 15 = .ok (.invokevirtual 357, 3) := by decide +kernel
theorem dX8_otherwise_18 : decode cX8_otherwise 18 = .ok (.aload_n 0, 1) := by decide +kernel
theorem dX8_otherwise_19 : decode cX8_otherwise 19 = .ok (.getfield 124, 3) := by decide +kernel
theorem dX8_otherwise_22 : decode cX8_otherwise 22 = .ok (.iload_n 1, 1) := by decide +kernel
theorem dX8_otherwise_23 : decode cX8_otherwise 23 = .ok (.aaload, 1) := by decide +kernel
theorem dX8_otherwise_24 : decode cX8_otherwise 24 = .ok (.iload_n 3, 1) := by decide +kernel
theorem dX8_otherwise_25 : decode cX8_otherwise 25 = .ok (.iaload, 1) := by decide +kernel
theorem dX8_otherwise_26 : decode cX8_otherwise 26 = .ok (.if_icmp .eq 5, 3) := by decide +kernel
theorem dX8_otherwise_29 : decode cX8_otherwise 29 = .ok (.iload_n 3, 1) := by decide +kernel
theorem dX8_otherwise_30 : decode cX8_otherwise 30 = .ok (.ireturn, 1) := by decide +kernel
theorem dX8_otherwise_31 : decode cX8_otherwise 31 = .ok (.iinc 3 1, 3) := by decide +kernel
theorem dX8_otherwise_34 : decode cX8_otherwise 34 = .ok (.goto (-32), 3) := by decide +kernel
theorem dX8_otherwise_37 : decode cX8_otherwise 37 = .ok (.iconst (-1), 1) := by decide +kernel
theorem dX8_otherwise_38 : decode cX8_otherwise 38 = .ok (.ireturn, 1) := by decide +kernel
theorem dX8_isTarget_0 : decode cX8_isTarget 0 = .ok (.aload_n 0, 1) := by decide +kernel
theorem dX8_isTarget_1 : decode cX8_isTarget 1 = .ok (.iload_n 2, 1) := by decide +kernel
theorem dX8_isTarget_2 : decode cX8_isTarget 2 = .ok (.invokevirtual 291, 3) := by decide +kernel
theorem dX8_isTarget_5 : decode cX8_isTarget 5 = .ok (.iconst 0, 1) := by decide +kernel
theorem dX8_isTarget_6 : decode cX8_isTarget 6 = .ok (.istore_n 3, 1) := by decide +kernel
theorem dX8_isTarget_7 : decode cX8_isTarget 7 = .ok (.iload_n 3, 1) := by decide +kernel
theorem dX8_isTarget_8 : decode cX8_isTarget 8 = .ok (.aload_n 0, 1) := by decide +kernel
theorem dX8_isTarget_9 : decode cX8_isTarget 9 = .ok (.getfield 121, 3) := by decide +kernel
theorem dX8_isTarget_12 : decode cX8_isTarget 12 = .ok (.iload_n 1, 1) := by decide +kernel
theorem dX8_isTarget_13 : decode cX8_isTarget 13 = .ok (.iaload, 1) := by decide +kernel
theorem dX8_isTarget_14 : decode cX8_isTarget 14 = .ok (.if_icmp .ge 41, 3) := by decide +kernel
theorem dX8_isTarget_17 : decode cX8_isTarget 17 = .ok (.aload_n 0, 1) := by decide +kernel
theorem dX8_isTarget_18 : decode cX8_isTarget 18 = .ok (.getfield 64, 3) := by decide +kernel
theorem dX8_isTarget_21 : decode cX8_isTarget 21 = .ok (.iload_n 3, 1) := by decide +kernel
theorem dX8_isTarget_22 : decode cX8_isTarget 22 = .ok (.baload, 1) := by decide +kernel
theorem dX8_isTarget_23 : decode cX8_isTarget 23 = .ok (.ifCond .eq 12, 3) := by decide +kernel
theorem dX8_isTarget_26 : decode cX8_isTarget 26 = .ok (.aload_n 0, 1) := by decide +kernel
theorem dX8_isTarget_27 : decode cX8_isTarget 27 = .ok (.getfield 76, 3) := by decide +kernel
theorem dX8_isTarget_30 : decode cX8_isTarget 30 = .ok (.iload_n 3, 1) := by decide +kernel
theorem dX8_isTarget_31 : decode cX8_isTarget 31 = .ok (.iaload, 1) := by decide +kernel
theorem dX8_isTarget_32 : decode cX8_isTarget 32 = .ok (.goto 4, 3) := by decide +kernel
theorem dX8_isTarget_35 : decode cX8_isTarget 35 = .ok (.iconst (-1), 1) := by decide +kernel
theorem dX8_isTarget_36 : decode cX8_isTarget 36 = .ok (.aload_n 0, 1) := by decide +kernel
theorem dX8_isTarget_37 : decode cX8_isTarget 37 = .ok (.getfield 124, 3) := by decide +kernel
theorem dX8_isTarget_40 : decode cX8_isTarget 40 = .ok (.iload_n 1, 1) := by decide +kernel
theorem dX8_isTarget_41 : decode cX8_isTarget 41 = .ok (.aaload, 1) := by decide +kernel
theorem dX8_isTarget_42 : decode cX8_isTarget 42 = .ok (.iload_n 3, 1) := by decide +kernel
theorem dX8_isTarget_43 : decode cX8_isTarget 43 = .ok (.iaload, 1) := by decide +kernel
theorem dX8_isTarget_44 : decode cX8_isTarget 44 = .ok (.if_icmp .eq 5, 3) := by decide +kernel
theorem dX8_isTarget_47 : decode cX8_isTarget 47 = .ok (.iconst 0, 1) := by decide +kernel
theorem dX8_isTarget_48 : decode cX8_isTarget 48 = .ok (.ireturn, 1) := by decide +kernel
theorem dX8_isTarget_49 : decode cX8_isTarget 49 = .ok (.iinc 3 1, 3) := by decide +kernel
theorem dX8_isTarget_52 : decode cX8_isTarget 52 = .ok (.goto (-45), 3) := by decide +kernel
theorem dX8_isTarget_55 : decode cX8_isTarget 55 = .ok (.iconst 1, 1) := by decide +kernel
theorem dX8_isTarget_56 : decode cX8_isTarget 56 = .ok (.ireturn, 1) := by decide +kernel
theorem dX8_tells_0 : decode cX8_tells 0 = .ok (.iload_n 1, 1) := by decide +kernel
theorem dX8_tells_1 : decode cX8_tells 1 = .ok (.invokestatic 360, 3) := by decide +kernel
theorem dX8_tells_4 : decode cX8_tells 4 = .ok (.ifCond .eq 19, 3) := by decide +kernel
theorem dX8_tells_7 : decode cX8_tells 7 = .ok (.iload_n 2, 1) := by decide +kernel
theorem dX8_tells_8 : decode cX8_tells 8 = .ok (.invokestatic 187, 3) := by decide +kernel
theorem dX8_tells_11 : decode cX8_tells 11 = .ok (.ifCond .eq 12, 3) := by decide +kernel
theorem dX8_tells_14 : decode cX8_tells 14 = .ok (.iload_n 3, 1) := by decide +kernel
theorem dX8_tells_15 : decode cX8_tells 15 = .ok (.iconst 0, 1) := by decide +kernel
theorem dX8_tells_16 : decode cX8_tells 16 = .ok (.iconst 1, 1) := by decide +kernel
theorem dX8_tells_17 : decode cX8_tells 17 = .ok (.invokestatic 133, 3) := by decide +kernel
theorem dX8_tells_20 : decode cX8_tells 20 = .ok (.ifCond .ne 6, 3) := by decide +kernel
theorem dX8_tells_23 : decode cX8_tells 23 = .ok (.bipush (-2), 2) := by decide +kernel
theorem dX8_tells_25 : decode cX8_tells 25 = .ok (.ireturn, 1) := by decide +kernel
theorem dX8_tells_26 : decode cX8_tells 26 = .ok (.aload_n 0, 1) := by decide +kernel
theorem dX8_tells_27 : decode cX8_tells 27 = .ok (.getfield 118, 3) := by decide +kernel
theorem dX8_tells_30 : decode cX8_tells 30 = .ok (.iload_n 1, 1) := by decide +kernel
theorem dX8_tells_31 : decode cX8_tells 31 = .ok (.iaload, 1) := by decide +kernel
theorem dX8_tells_32 : decode cX8_tells 32 = .ok (.ifCond .ge 6, 3) := by decide +kernel
theorem dX8_tells_35 : decode cX8_tells 35 = .ok (.bipush (-11), 2) := by decide +kernel
theorem dX8_tells_37 : decode cX8_tells 37 = .ok (.ireturn, 1) := by decide +kernel
theorem dX8_tells_38 : decode cX8_tells 38 = .ok (.aload_n 0, 1) := by decide +kernel
theorem dX8_tells_39 : decode cX8_tells 39 = .ok (.getfield 121, 3) := by decide +kernel
theorem dX8_tells_42 : decode cX8_tells 42 = .ok (.iload_n 1, 1) := by decide +kernel
theorem dX8_tells_43 : decode cX8_tells 43 = .ok (.iaload, 1) := by decide +kernel
theorem dX8_tells_44 : decode cX8_tells 44 = .ok (.bipush 30, 2) := by decide +kernel
theorem dX8_tells_46 : decode cX8_tells 46 = .ok (.if_icmp .le 6, 3) := by decide +kernel
theorem dX8_tells_49 : decode cX8_tells 49 = .ok (.bipush (-2), 2) := by decide +kernel
theorem dX8_tells_51 : decode cX8_tells 51 = .ok (.ireturn, 1) := by decide +kernel
theorem dX8_tells_52 : decode cX8_tells 52 = .ok (.iload_n 3, 1) := by decide +kernel
theorem dX8_tells_53 : decode cX8_tells 53 = .ok (.ifCond .ne 10, 3) := by decide +kernel
theorem dX8_tells_56 : decode cX8_tells 56 = .ok (.aload_n 0, 1) := by decide +kernel
theorem dX8_tells_57 : decode cX8_tells 57 = .ok (.iload_n 1, 1) := by decide +kernel
theorem dX8_tells_58 : decode cX8_tells 58 = .ok (.iload_n 2, 1) := by decide +kernel
theorem dX8_tells_59 : decode cX8_tells 59 = .ok (.invokevirtual 363, 3) := by decide +kernel
theorem dX8_tells_62 : decode cX8_tells 62 = .ok (.ireturn, 1) := by decide +kernel
theorem dX8_tells_63 : decode cX8_tells 63 = .ok (.iconst 0, 1) := by decide +kernel
theorem dX8_tells_64 : decode cX8_tells 64 = .ok (.istore 4, 2) := by decide +kernel
theorem dX8_tells_66 : decode cX8_tells 66 = .ok (.iconst 0, 1) := by decide +kernel
theorem dX8_tells_67 : decode cX8_tells 67 = .ok (.istore 5, 2) := by decide +kernel
theorem dX8_tells_69 : decode cX8_tells 69 = .ok (.iload 5, 2) := by decide +kernel
theorem dX8_tells_71 : decode cX8_tells 71 = .ok (.iconst 3, 1) := by decide +kernel
theorem dX8_tells_72 : decode cX8_tells 72 = .ok (.if_icmp .ge 29, 3) := by decide +kernel
theorem dX8_tells_75 : decode cX8_tells 75 = .ok (.aload_n 0, 1) := by decide +kernel
theorem dX8_tells_76 : decode cX8_tells 76 = .ok (.iload_n 1, 1) := by decide +kernel
theorem dX8_tells_77 : decode cX8_tells 77 = .ok (.iload 5, 2) := by decide +kernel
theorem dX8_tells_79 : decode cX8_tells 79 = .ok (.invokevirtual 363, 3) := by decide +kernel
theorem dX8_tells_82 : decode cX8_tells 82 = .ok (.iconst (-1), 1) := by decide +kernel
theorem dX8_tells_83 : decode cX8_tells 83 = .ok (.if_icmp .ne 12, 3) := by decide +kernel
theorem dX8_tells_86 : decode cX8_tells 86 = .ok (.iload 4, 2) := by decide +kernel
theorem dX8_tells_88 : decode cX8_tells 88 = .ok (.iconst 1, 1) := by decide +kernel
theorem dX8_tells_89 : decode cX8_tells 89 = .ok (.iload 5, 2) := by decide +kernel
theorem dX8_tells_91 : decode cX8_tells 91 = .ok (.ishl, 1) := by decide +kernel
theorem dX8_tells_92 : decode cX8_tells 92 = .ok (.ior, 1) := by decide +kernel
theorem dX8_tells_93 : decode cX8_tells 93 = .ok (.istore 4, 2) := by decide +kernel
theorem dX8_tells_95 : decode cX8_tells 95 = .ok (.iinc 5 1, 3) := by decide +kernel
theorem dX8_tells_98 : decode cX8_tells 98 = .ok (.goto (-29), 3) := by decide +kernel
theorem dX8_tells_101 : decode cX8_tells 101 = .ok (.iconst 0, 1) := by decide +kernel
theorem dX8_tells_102 : decode cX8_tells 102 = .ok (.istore 5, 2) := by decide +kernel
theorem dX8_tells_104 : decode cX8_tells 104 = .ok (.iload 5, 2) := by decide +kernel
theorem dX8_tells_106 : decode cX8_tells 106 = .ok (.iconst 2, 1) := by decide +kernel
theorem dX8_tells_107 : decode cX8_tells 107 = .ok (.if_icmp .ge 29, 3) := by decide +kernel
theorem dX8_tells_110 : decode cX8_tells 110 = .ok (.aload_n 0, 1) := by decide +kernel
theorem dX8_tells_111 : decode cX8_tells 111 = .ok (.iload_n 1, 1) := by decide +kernel
theorem dX8_tells_112 : decode cX8_tells 112 = .ok (.iload 5, 2) := by decide +kernel
theorem dX8_tells_114 : decode cX8_tells 114 = .ok (.invokevirtual 366, 3) := by decide +kernel
theorem dX8_tells_117 : decode cX8_tells 117 = .ok (.ifCond .eq 13, 3) := by decide +kernel
theorem dX8_tells_120 : decode cX8_tells 120 = .ok (.iload 4, 2) := by decide +kernel
theorem dX8_tells_122 : decode cX8_tells 122 = .ok (.bipush 8, 2) := by decide +kernel
theorem dX8_tells_124 : decode cX8_tells 124 = .ok (.iload 5, 2) := by decide +kernel
theorem dX8_tells_126 : decode cX8_tells 126 = .ok (.ishl, 1) := by decide +kernel
theorem dX8_tells_127 : decode cX8_tells 127 = .ok (.ior, 1) := by decide +kernel
theorem dX8_tells_128 : decode cX8_tells 128 = .ok (.istore 4, 2) := by decide +kernel
theorem dX8_tells_130 : decode cX8_tells 130 = .ok (.iinc 5 1, 3) := by decide +kernel
theorem dX8_tells_133 : decode cX8_tells 133 = .ok (.goto (-29), 3) := by decide +kernel
theorem dX8_tells_136 : decode cX8_tells 136 = .ok (.iload 4, 2) := by decide +kernel
theorem dX8_tells_138 : decode cX8_tells 138 = .ok (.ireturn, 1) := by decide +kernel
theorem dX8_film_0 : decode cX8_film 0 = .ok (.iload_n 1, 1) := by decide +kernel
theorem dX8_film_1 : decode cX8_film 1 = .ok (.invokestatic 360, 3) := by decide +kernel
theorem dX8_film_4 : decode cX8_film 4 = .ok (.ifCond .eq 20, 3) := by decide +kernel
theorem dX8_film_7 : decode cX8_film 7 = .ok (.iload_n 2, 1) := by decide +kernel
theorem dX8_film_8 : decode cX8_film 8 = .ok (.invokestatic 187, 3) := by decide +kernel
theorem dX8_film_11 : decode cX8_film 11 = .ok (.ifCond .eq 13, 3) := by decide +kernel
theorem dX8_film_14 : decode cX8_film 14 = .ok (.iload_n 3, 1) := by decide +kernel
theorem dX8_film_15 : decode cX8_film 15 = .ok (.iconst 0, 1) := by decide +kernel
theorem dX8_film_16 : decode cX8_film 16 = .ok (.bipush 30, 2) := by decide +kernel
theorem dX8_film_18 : decode cX8_film 18 = .ok (.invokestatic 133, 3) := by decide +kernel
theorem dX8_film_21 : decode cX8_film 21 = .ok (.ifCond .ne 6, 3) := by decide +kernel
theorem dX8_film_24 : decode cX8_film 24 = .ok (.bipush (-2), 2) := by decide +kernel
theorem dX8_film_26 : decode cX8_film 26 = .ok (.ireturn, 1) := by decide +kernel
theorem dX8_film_27 : decode cX8_film 27 = .ok (.aload_n 0, 1) := by decide +kernel
theorem dX8_film_28 : decode cX8_film 28 = .ok (.getfield 118, 3) := by decide +kernel
theorem dX8_film_31 : decode cX8_film 31 = .ok (.iload_n 1, 1) := by decide +kernel
theorem dX8_film_32 : decode cX8_film 32 = .ok (.iconst 1, 1) := by decide +kernel
theorem dX8_film_33 : decode cX8_film 33 = .ok (.iastore, 1) := by decide +kernel
theorem dX8_film_34 : decode cX8_film 34 = .ok (.aload_n 0, 1) := by decide +kernel
theorem dX8_film_35 : decode cX8_film 35 = .ok (.getfield 121, 3) := by decide +kernel
theorem dX8_film_38 : decode cX8_film 38 = .ok (.iload_n 1, 1) := by decide +kernel
theorem dX8_film_39 : decode cX8_film 39 = .ok (.iload_n 3, 1) := by decide +kernel
theorem dX8_film_40 : decode cX8_film 40 = .ok (.iastore, 1) := by decide +kernel
theorem dX8_film_41 : decode cX8_film 41 = .ok (.iconst 0, 1) := by decide +kernel
theorem dX8_film_42 : decode cX8_film 42 = .ok (.istore 4, 2) := by decide +kernel
theorem dX8_film_44 : decode cX8_film 44 = .ok (.iload 4, 2) := by decide +kernel
theorem dX8_film_46 : decode cX8_film 46 = .ok (.iload_n 3, 1) := by decide +kernel
theorem dX8_film_47 : decode cX8_film 47 = .ok (.if_icmp .ge 25, 3) := by decide +kernel
theorem dX8_film_50 : decode cX8_film 50 = .ok (.aload_n 0, 1) := by decide +kernel
theorem dX8_film_51 : decode cX8_film 51 = .ok (.getfield 124, 3) := by decide +kernel
theorem dX8_film_54 : decode cX8_film 54 = .ok (.iload_n 1, 1) := by decide +kernel
theorem dX8_film_55 : decode cX8_film 55 = .ok (.aaload, 1) := by decide +kernel
theorem dX8_film_56 : decode cX8_film 56 = .ok (.iload 4, 2) := by decide +kernel
theorem dX8_film_58 : decode cX8_film 58 = .ok (.aload_n 0, 1) := by decide +kernel
theorem dX8_film_59 : decode cX8_film 59 = .ok (.iload_n 2, 1) := by decide +kernel
theorem dX8_film_60 : decode cX8_film 60 = .ok (.iload 4, 2) := by decide +kernel
theorem dX8_film_62 : decode cX8_film 62 = .ok (.invokevirtual 357, 3) := by decide +kernel
theorem dX8_film_65 : decode cX8_film 65 = .ok (.iastore, 1) := by decide +kernel
theorem dX8_film_66 : decode cX8_film 66 = .ok (.iinc 4 1, 3) := by decide +kernel
theorem dX8_film_69 : decode cX8_film 69 = .ok (.goto (-25), 3) := by decide +kernel
theorem dX8_film_72 : decode cX8_film 72 = .ok (.iload_n 3, 1) := by decide +kernel
theorem dX8_film_73 : decode cX8_film 73 = .ok (.ireturn, 1) := by decide +kernel
theorem dX8_image_0 : decode cX8_image 0 = .ok (.aload_n 0, 1) := by decide +kernel
theorem dX8_image_1 : decode cX8_image 1 = .ok (.iconst 1, 1) := by decide +kernel
theorem dX8_image_2 : decode cX8_image 2 = .ok (.putfield 369, 3) := by decide +kernel
theorem dX8_image_5 : decode cX8_image 5 = .ok (.aload_n 0, 1) := by decide +kernel
theorem dX8_image_6 : decode cX8_image 6 = .ok (.getfield 97, 3) := by decide +kernel
theorem dX8_image_9 : decode cX8_image 9 = .ok (.iconst 0, 1) := by decide +kernel
theorem dX8_image_10 : decode cX8_image 10 = .ok (.aload_n 0, 1) := by decide +kernel
theorem dX8_image_11 : decode cX8_image 11 = .ok (.getfield 130, 3) := by decide +kernel
theorem dX8_image_14 : decode cX8_image 14 = .ok (.iastore, 1) := by decide +kernel
theorem dX8_image_15 : decode cX8_image 15 = .ok (.aload_n 0, 1) := by decide +kernel
theorem dX8_image_16 : decode cX8_image 16 = .ok (.getfield 97, 3) := by decide +kernel
theorem dX8_image_19 : decode cX8_image 19 = .ok (.iconst 1, 1) := by decide +kernel
theorem dX8_image_20 : decode cX8_image 20 = .ok (.aload_n 0, 1) := by decide +kernel
theorem dX8_image_21 : decode cX8_image 21 = .ok (.getfield 288, 3) := by decide +kernel
theorem dX8_image_24 : decode cX8_image 24 = .ok (.iastore, 1) := by decide +kernel
theorem dX8_image_25 : decode cX8_image 25 = .ok (.aload_n 0, 1) := by decide +kernel
theorem dX8_image_26 : decode cX8_image 26 = .ok (.getfield 97, 3) := by decide +kernel
theorem dX8_image_29 : decode cX8_image 29 = .ok (.iconst 2, 1) := by decide +kernel
theorem dX8_image_30 : decode cX8_image 30 = .ok (.aload_n 0, 1) := by decide +kernel
theorem dX8_image_31 : decode cX8_image 31 = .ok (.getfield 145, 3) := by decide +kernel
theorem dX8_image_34 : decode cX8_image 34 = .ok (.iastore, 1) := by decide +kernel
theorem dX8_image_35 : decode cX8_image 35 = .ok (.aload_n 0, 1) := by decide +kernel
theorem dX8_image_36 : decode cX8_image 36 = .ok (.getfield 97, 3) := by decide +kernel
theorem dX8_image_39 : decode cX8_image 39 = .ok (.iconst 3, 1) := by decide +kernel
theorem dX8_image_40 : decode cX8_image 40 = .ok (.aload_n 0, 1) := by decide +kernel
theorem dX8_image_41 : decode cX8_image 41 = .ok (.getfield 29, 3) := by decide +kernel
theorem dX8_image_44 : decode cX8_image 44 = .ok (.iastore, 1) := by decide +kernel
theorem dX8_image_45 : decode cX8_image 45 = .ok (.aload_n 0, 1) := by decide +kernel
theorem dX8_image_46 : decode cX8_image 46 = .ok (.getfield 97, 3) := by decide +kernel
theorem dX8_image_49 : decode cX8_image 49 = .ok (.iconst 4, 1) := by decide +kernel
theorem dX8_image_50 : decode cX8_image 50 = .ok (.aload_n 0, 1) := by decide +kernel
theorem dX8_image_51 : decode cX8_image 51 = .ok (.getfield 148, 3) := by decide +kernel
theorem dX8_image_54 : decode cX8_image 54 = .ok (.iastore, 1) := by decide +kernel
theorem dX8_image_55 : decode cX8_image 55 = .ok (.aload_n 0, 1) := by decide +kernel
theorem dX8_image_56 : decode cX8_image 56 = .ok (.getfield 97, 3) := by decide +kernel
theorem dX8_image_59 : decode cX8_image 59 = .ok (.iconst 5, 1) := by decide +kernel
theorem dX8_image_60 : decode cX8_image 60 = .ok (.aload_n 0, 1) := by decide +kernel
theorem dX8_image_61 : decode cX8_image 61 = .ok (.getfield 230, 3) := by decide +kernel
theorem dX8_image_64 : decode cX8_image 64 = .ok (.iastore, 1) := by decide +kernel
theorem dX8_image_65 : decode cX8_image 65 = .ok (.iconst 0, 1) := by decide +kernel
theorem dX8_image_66 : decode cX8_image 66 = .ok (.istore_n 1, 1) := by decide +kernel
theorem dX8_image_67 : decode cX8_image 67 = .ok (.iload_n 1, 1) := by decide +kernel
theorem dX8_image_68 : decode cX8_image 68 = .ok (.iconst 3, 1) := by decide +kernel
theorem dX8_image_69 : decode cX8_image 69 = .ok (.if_icmp .ge 85, 3) := by decide +kernel
theorem dX8_image_72 : decode cX8_image 72 = .ok (.aload_n 0, 1) := by decide +kernel
theorem dX8_image_73 : decode cX8_image 73 = .ok (.getfield 15, 3) := by decide +kernel
theorem dX8_image_76 : decode cX8_image 76 = .ok (.iload_n 1, 1) := by decide +kernel
theorem dX8_image_77 : decode cX8_image 77 = .ok (.aaload, 1) := by decide +kernel
theorem dX8_image_78 : decode cX8_image 78 = .ok (.iconst 0, 1) := by decide +kernel
theorem dX8_image_79 : decode cX8_image 79 = .ok (.aload_n 0, 1) := by decide +kernel
theorem dX8_image_80 : decode cX8_image 80 = .ok (.getfield 100, 3) := by decide +kernel
theorem dX8_image_83 : decode cX8_image 83 = .ok (.iload_n 1, 1) := by decide +kernel
theorem dX8_image_84 : decode cX8_image 84 = .ok (.aaload, 1) := by decide +kernel
theorem dX8_image_85 : decode cX8_image 85 = .ok (.iconst 0, 1) := by decide +kernel
theorem dX8_image_86 : decode cX8_image 86 = .ok (.bipush 30, 2) := by decide +kernel
theorem dX8_image_88 : decode cX8_image 88 = .ok (.invokestatic 322, 3) := by decide +kernel
theorem dX8_image_91 : decode cX8_image 91 = .ok (.aload_n 0, 1) := by decide +kernel
theorem dX8_image_92 : decode cX8_image 92 = .ok (.getfield 20, 3) := by decide +kernel
theorem dX8_image_95 : decode cX8_image 95 = .ok (.iload_n 1, 1) := by decide +kernel
theorem dX8_image_96 : decode cX8_image 96 = .ok (.aaload, 1) := by decide +kernel
theorem dX8_image_97 : decode cX8_image 97 = .ok (.iconst 0, 1) := by decide +kernel
theorem dX8_image_98 : decode cX8_image 98 = .ok (.aload_n 0, 1) := by decide +kernel
theorem dX8_image_99 : decode cX8_image 99 = .ok (.getfield 103, 3) := by decide +kernel
theorem dX8_image_102 : decode cX8_image 102 = .ok (.iload_n 1, 1) := by decide +kernel
theorem dX8_image_103 : decode cX8_image 103 = .ok (.aaload, 1) := by decide +kernel
theorem dX8_image_104 : decode cX8_image 104 = .ok (.iconst 0, 1) := by decide +kernel
theorem dX8_image_105 : decode cX8_image 105 = .ok (.bipush 30, 2) := by decide +kernel
theorem dX8_image_107 : decode cX8_image 107 = .ok (.invokestatic 322, 3) := by decide +kernel
theorem dX8_image_110 : decode cX8_image 110 = .ok (.aload_n 0, 1) := by decide +kernel
theorem dX8_image_111 : decode cX8_image 111 = .ok (.getfield 23, 3) := by decide +kernel
theorem dX8_image_114 : decode cX8_image 114 = .ok (.iload_n 1, 1) := by decide +kernel
theorem dX8_image_115 : decode cX8_image 115 = .ok (.aaload, 1) := by decide +kernel
theorem dX8_image_116 : decode cX8_image 116 = .ok (.iconst 0, 1) := by decide +kernel
theorem dX8_image_117 : decode cX8_image 117 = .ok (.aload_n 0, 1) := by decide +kernel
theorem dX8_image_118 : decode cX8_image 118 = .ok (.getfield 106, 3) := by decide +kernel
theorem dX8_image_121 : decode cX8_image 121 = .ok (.iload_n 1, 1) := by decide +kernel
theorem dX8_image_122 : decode cX8_image 122 = .ok (.aaload, 1) := by decide +kernel
theorem dX8_image_123 : decode cX8_image 123 = .ok (.iconst 0, 1) := by decide +kernel
theorem dX8_image_124 : decode cX8_image 124 = .ok (.bipush 30, 2) := by decide +kernel
theorem dX8_image_126 : decode cX8_image 126 = .ok (.invokestatic 322, 3) := by decide +kernel
theorem dX8_image_129 : decode cX8_image 129 = .ok (.aload_n 0, 1) := by decide +kernel
theorem dX8_image_130 : decode cX8_image 130 = .ok (.getfield 26, 3) := by decide +kernel
theorem dX8_image_133 : decode cX8_image 133 = .ok (.iload_n 1, 1) := by decide +kernel
theorem dX8_image_134 : decode cX8_image 134 = .ok (.aaload, 1) := by decide +kernel
theorem dX8_image_135 : decode cX8_image 135 = .ok (.iconst 0, 1) := by decide +kernel
theorem dX8_image_136 : decode cX8_image 136 = .ok (.aload_n 0, 1) := by decide +kernel
theorem dX8_image_137 : decode cX8_image 137 = .ok (.getfield 109, 3) := by decide +kernel
theorem dX8_image_140 : decode cX8_image 140 = .ok (.iload_n 1, 1) := by decide +kernel
theorem dX8_image_141 : decode cX8_image 141 = .ok (.aaload, 1) := by decide +kernel
theorem dX8_image_142 : decode cX8_image 142 = .ok (.iconst 0, 1) := by decide +kernel
theorem dX8_image_143 : decode cX8_image 143 = .ok (.bipush 30, 2) := by decide +kernel
theorem dX8_image_145 : decode cX8_image 145 = .ok (.invokestatic 322, 3) := by decide +kernel
theorem dX8_image_148 : decode cX8_image 148 = .ok (.iinc 1 1, 3) := by decide +kernel
theorem dX8_image_151 : decode cX8_image 151 = .ok (.goto (-84), 3) := by decide +kernel
theorem dX8_image_154 : decode cX8_image 154 = .ok (.aload_n 0, 1) := by decide +kernel
theorem dX8_image_155 : decode cX8_image 155 = .ok (.getfield 9, 3) := by decide +kernel
theorem dX8_image_158 : decode cX8_image 158 = .ok (.iconst 0, 1) := by decide +kernel
theorem dX8_image_159 : decode cX8_image 159 = .ok (.aload_n 0, 1) := by decide +kernel
theorem dX8_image_160 : decode cX8_image 160 = .ok (.getfield 100, 3) := by decide +kernel
theorem dX8_image_163 : decode cX8_image 163 = .ok (.iconst 3, 1) := by decide +kernel
theorem dX8_image_164 : decode cX8_image 164 = .ok (.aaload, 1) := by decide +kernel
theorem dX8_image_165 : decode cX8_image 165 = .ok (.iconst 0, 1) := by decide +kernel
theorem dX8_image_166 : decode cX8_image 166 = .ok (.bipush 30, 2) := by decide +kernel
theorem dX8_image_168 : decode cX8_image 168 = .ok (.invokestatic 322, 3) := by decide +kernel
theorem dX8_image_171 : decode cX8_image 171 = .ok (.aload_n 0, 1) := by decide +kernel
theorem dX8_image_172 : decode cX8_image 172 = .ok (.getfield 36, 3) := by decide +kernel
theorem dX8_image_175 : decode cX8_image 175 = .ok (.iconst 0, 1) := by decide +kernel
theorem dX8_image_176 : decode cX8_image 176 = .ok (.aload_n 0, 1) := by decide +kernel
theorem dX8_image_177 : decode cX8_image 177 = .ok (.getfield 100, 3) := by decide +kernel
theorem dX8_image_180 : decode cX8_image 180 = .ok (.iconst 4, 1) := by decide +kernel
theorem dX8_image_181 : decode cX8_image 181 = .ok (.aaload, 1) := by decide +kernel
theorem dX8_image_182 : decode cX8_image 182 = .ok (.iconst 0, 1) := by decide +kernel
theorem dX8_image_183 : decode cX8_image 183 = .ok (.bipush 6, 2) := by decide +kernel
theorem dX8_image_185 : decode cX8_image 185 = .ok (.invokestatic 322, 3) := by decide +kernel
theorem dX8_image_188 : decode cX8_image 188 = .ok (.iconst 0, 1) := by decide +kernel
theorem dX8_image_189 : decode cX8_image 189 = .ok (.istore_n 1, 1) := by decide +kernel
theorem dX8_image_190 : decode cX8_image 190 = .ok (.iload_n 1, 1) := by decide +kernel
theorem dX8_image_191 : decode cX8_image 191 = .ok (.bipush 6, 2) := by decide +kernel
theorem dX8_image_193 : decode cX8_image 193 = .ok (.if_icmp .ge 28, 3) := by decide +kernel
theorem dX8_image_196 : decode cX8_image 196 = .ok (.aload_n 0, 1) := by decide +kernel
theorem dX8_image_197 : decode cX8_image 197 = .ok (.getfield 43, 3) := by decide +kernel
theorem dX8_image_200 : decode cX8_image 200 = .ok (.iload_n 1, 1) := by decide +kernel
theorem dX8_image_201 : decode cX8_image 201 = .ok (.aaload, 1) := by decide +kernel
theorem dX8_image_202 : decode cX8_image 202 = .ok (.iconst 0, 1) := by decide +kernel
theorem dX8_image_203 : decode cX8_image 203 = .ok (.aload_n 0, 1) := by decide +kernel
theorem dX8_image_204 : decode cX8_image 204 = .ok (.getfield 112, 3) := by decide +kernel
theorem dX8_image_207 : decode cX8_image 207 = .ok (.iload_n 1, 1) := by decide +kernel
theorem dX8_image_208 : decode cX8_image 208 = .ok (.aaload, 1) := by decide +kernel
theorem dX8_image_209 : decode cX8_image 209 = .ok (.iconst 0, 1) := by decide +kernel
theorem dX8_image_210 : decode cX8_image 210 = .ok (.bipush 8, 2) := by decide +kernel
theorem dX8_image_212 : decode cX8_image 212 = .ok (.invokestatic 322, 3) := by decide +kernel
theorem dX8_image_215 : decode cX8_image 215 = .ok (.iinc 1 1, 3) := by decide +kernel
theorem dX8_image_218 : decode cX8_image 218 = .ok (.goto (-28), 3) := by decide +kernel
theorem dX8_image_221 : decode cX8_image 221 = .ok (.aload_n 0, 1) := by decide +kernel
theorem dX8_image_222 : decode cX8_image 222 = .ok (.getfield 39, 3) := by decide +kernel
theorem dX8_image_225 : decode cX8_image 225 = .ok (.iconst 0, 1) := by decide +kernel
theorem dX8_image_226 : decode cX8_image 226 = .ok (.aload_n 0, 1) := by decide +kernel
theorem dX8_image_227 : decode cX8_image 227 = .ok (.getfield 115, 3) := by decide +kernel
theorem dX8_image_230 : decode cX8_image 230 = .ok (.iconst 0, 1) := by decide +kernel
theorem dX8_image_231 : decode cX8_image 231 = .ok (.bipush 6, 2) := by decide +kernel
theorem dX8_image_233 : decode cX8_image 233 = .ok (.invokestatic 322, 3) := by decide +kernel
theorem dX8_image_236 : decode cX8_image 236 = .ok (.aload_n 0, 1) := by decide +kernel
theorem dX8_image_237 : decode cX8_image 237 = .ok (.getfield 130, 3) := by decide +kernel
theorem dX8_image_240 : decode cX8_image 240 = .ok (.ireturn, 1) := by decide +kernel
theorem dX8_back_0 : decode cX8_back 0 = .ok (.aload_n 0, 1) := by decide +kernel
theorem dX8_back_1 : decode cX8_back 1 = .ok (.getfield 369, 3) := by decide +kernel
theorem dX8_back_4 : decode cX8_back 4 = .ok (.ifCond .ne 6, 3) := by decide +kernel
theorem dX8_back_7 : decode cX8_back 7 = .ok (.bipush (-3), 2) := by decide +kernel
theorem dX8_back_9 : decode cX8_back 9 = .ok (.ireturn, 1) := by decide +kernel
theorem dX8_back_10 : decode cX8_back 10 = .ok (.aload_n 0, 1) := by decide +kernel
theorem dX8_back_11 : decode cX8_back 11 = .ok (.aload_n 0, 1) := by decide +kernel
theorem dX8_back_12 : decode cX8_back 12 = .ok (.getfield 97, 3) := by decide +kernel
theorem dX8_back_15 : decode cX8_back 15 = .ok (.iconst 0, 1) := by decide +kernel
theorem dX8_back_16 : decode cX8_back 16 = .ok (.iaload, 1) := by decide +kernel
theorem dX8_back_17 : decode cX8_back 17 = .ok (.putfield 130, 3) := by decide +kernel
theorem dX8_back_20 : decode cX8_back 20 = .ok (.aload_n 0, 1) := by decide +kernel
theorem dX8_back_21 : decode cX8_back 21 = .ok (.aload_n 0, 1) := by decide +kernel
theorem dX8_back_22 : decode cX8_back 22 = .ok (.getfield 97, 3) := by decide +kernel
theorem dX8_back_25 : decode cX8_back 25 = .ok (.iconst 1, 1) := by decide +kernel
theorem dX8_back_26 : decode cX8_back 26 = .ok (.iaload, 1) := by decide +kernel
theorem dX8_back_27 : decode cX8_back 27 = .ok (.putfield 288, 3) := by decide +kernel
theorem dX8_back_30 : decode cX8_back 30 = .ok (.aload_n 0, 1) := by decide +kernel
theorem dX8_back_31 : decode cX8_back 31 = .ok (.aload_n 0, 1) := by decide +kernel
theorem dX8_back_32 : decode cX8_back 32 = .ok (.getfield 97, 3) := by decide +kernel
theorem dX8_back_35 : decode cX8_back 35 = .ok (.iconst 2, 1) := by decide +kernel
theorem dX8_back_36 : decode cX8_back 36 = .ok (.iaload, 1) := by decide +kernel
theorem dX8_back_37 : decode cX8_back 37 = .ok (.putfield 145, 3) := by decide +kernel
theorem dX8_back_40 : decode cX8_back 40 = .ok (.aload_n 0, 1) := by decide +kernel
theorem dX8_back_41 : decode cX8_back 41 = .ok (.aload_n 0, 1) := by decide +kernel
theorem dX8_back_42 : decode cX8_back 42 = .ok (.getfield 97, 3) := by decide +kernel
theorem dX8_back_45 : decode cX8_back 45 = .ok (.iconst 3, 1) := by decide +kernel
theorem dX8_back_46 : decode cX8_back 46 = .ok (.iaload, 1) := by decide +kernel
theorem dX8_back_47 : decode cX8_back 47 = .ok (.putfield 29, 3) := by decide +kernel
theorem dX8_back_50 : decode cX8_back 50 = .ok (.aload_n 0, 1) := by decide +kernel
theorem dX8_back_51 : decode cX8_back 51 = .ok (.aload_n 0, 1) := by decide +kernel
theorem dX8_back_52 : decode cX8_back 52 = .ok (.getfield 97, 3) := by decide +kernel
theorem dX8_back_55 : decode cX8_back 55 = .ok (.iconst 4, 1) := by decide +kernel
theorem dX8_back_56 : decode cX8_back 56 = .ok (.iaload, 1) := by decide +kernel
theorem dX8_back_57 : decode cX8_back 57 = .ok (.putfield 148, 3) := by decide +kernel
theorem dX8_back_60 : decode cX8_back 60 = .ok (.aload_n 0, 1) := by decide +kernel
theorem dX8_back_61 : decode cX8_back 61 = .ok (.aload_n 0, 1) := by decide +kernel
theorem dX8_back_62 : decode cX8_back 62 = .ok (.getfield 97, 3) := by decide +kernel
theorem dX8_back_65 : decode cX8_back 65 = .ok (.iconst 5, 1) := by decide +kernel
theorem dX8_back_66 : decode cX8_back 66 = .ok (.iaload, 1) := by decide +kernel
theorem dX8_back_67 : decode cX8_back 67 = .ok (.putfield 230, 3) := by decide +kernel
theorem dX8_back_70 : decode cX8_back 70 = .ok (.iconst 0, 1) := by decide +kernel
theorem dX8_back_71 : decode cX8_back 71 = .ok (.istore_n 1, 1) := by decide +kernel
theorem dX8_back_72 : decode cX8_back 72 = .ok (.iload_n 1, 1) := by decide +kernel
theorem dX8_back_73 : decode cX8_back 73 = .ok (.iconst 3, 1) := by decide +kernel
theorem dX8_back_74 : decode cX8_back 74 = .ok (.if_icmp .ge 85, 3) := by decide +kernel
theorem dX8_back_77 : decode cX8_back 77 = .ok (.aload_n 0, 1) := by decide +kernel
theorem dX8_back_78 : decode cX8_back 78 = .ok (.getfield 100, 3) := by decide +kernel
theorem dX8_back_81 : decode cX8_back 81 = .ok (.iload_n 1, 1) := by decide +kernel
theorem dX8_back_82 : decode cX8_back 82 = .ok (.aaload, 1) := by decide +kernel
theorem dX8_back_83 : decode cX8_back 83 = .ok (.iconst 0, 1) := by decide +kernel
theorem dX8_back_84 : decode cX8_back 84 = .ok (.aload_n 0, 1) := by decide +kernel
theorem dX8_back_85 : decode cX8_back 85 = .ok (.getfield 15, 3) := by decide +kernel
theorem dX8_back_88 : decode cX8_back 88 = .ok (.iload_n 1, 1) := by decide +kernel
theorem dX8_back_89 : decode cX8_back 89 = .ok (.aaload, 1) := by decide +kernel
theorem dX8_back_90 : decode cX8_back 90 = .ok (.iconst 0, 1) := by decide +kernel
theorem dX8_back_91 : decode cX8_back 91 = .ok (.bipush 30, 2) := by decide +kernel
theorem dX8_back_93 : decode cX8_back 93 = .ok (.invokestatic 322, 3) := by decide +kernel
theorem dX8_back_96 : decode cX8_back 96 = .ok (.aload_n 0, 1) := by decide +kernel
theorem dX8_back_97 : decode cX8_back 97 = .ok (.getfield 103, 3) := by decide +kernel
theorem dX8_back_100 : decode cX8_back 100 = .ok (.iload_n 1, 1) := by decide +kernel
theorem dX8_back_101 : decode cX8_back 101 = .ok (.aaload, 1) := by decide +kernel
theorem dX8_back_102 : decode cX8_back 102 = .ok (.iconst 0, 1) := by decide +kernel
theorem dX8_back_103 : decode cX8_back 103 = .ok (.aload_n 0, 1) := by decide +kernel
theorem dX8_back_104 : decode cX8_back 104 = .ok (.getfield 20, 3) := by decide +kernel
theorem dX8_back_107 : decode cX8_back 107 = .ok (.iload_n 1, 1) := by decide +kernel
theorem dX8_back_108 : decode cX8_back 108 = .ok (.aaload, 1) := by decide +kernel
theorem dX8_back_109 : decode cX8_back 109 = .ok (.iconst 0, 1) := by decide +kernel
theorem dX8_back_110 : decode cX8_back 110 = .ok (.bipush 30, 2) := by decide +kernel
theorem dX8_back_112 : decode cX8_back 112 = .ok (.invokestatic 322, 3) := by decide +kernel
theorem dX8_back_115 : decode cX8_back 115 = .ok (.aload_n 0, 1) := by decide +kernel
theorem dX8_back_116 : decode cX8_back 116 = .ok (.getfield 106, 3) := by decide +kernel
theorem dX8_back_119 : decode cX8_back 119 = .ok (.iload_n 1, 1) := by decide +kernel
theorem dX8_back_120 : decode cX8_back 120 = .ok (.aaload, 1) := by decide +kernel
theorem dX8_back_121 : decode cX8_back 121 = .ok (.iconst 0, 1) := by decide +kernel
theorem dX8_back_122 : decode cX8_back 122 = .ok (.aload_n 0, 1) := by decide +kernel
theorem dX8_back_123 : decode cX8_back 123 = .ok (.getfield 23, 3) := by decide +kernel
theorem dX8_back_126 : decode cX8_back 126 = .ok (.iload_n 1, 1) := by decide +kernel
theorem dX8_back_127 : decode cX8_back 127 = .ok (.aaload, 1) := by decide +kernel
theorem dX8_back_128 : decode cX8_back 128 = .ok (.iconst 0, 1) := by decide +kernel
theorem dX8_back_129 : decode cX8_back 129 = .ok (.bipush 30, 2) := by decide +kernel
theorem dX8_back_131 : decode cX8_back 131 = .ok (.invokestatic 322, 3) := by decide +kernel
theorem dX8_back_134 : decode cX8_back 134 = .ok (.aload_n 0, 1) := by decide +kernel
theorem dX8_back_135 : decode cX8_back 135 = .ok (.getfield 109, 3) := by decide +kernel
theorem dX8_back_138 : decode cX8_back 138 = .ok (.iload_n 1, 1) := by decide +kernel
theorem dX8_back_139 : decode cX8_back 139 = .ok (.aaload, 1) := by decide +kernel
theorem dX8_back_140 : decode cX8_back 140 = .ok (.iconst 0, 1) := by decide +kernel
theorem dX8_back_141 : decode cX8_back 141 = .ok (.aload_n 0, 1) := by decide +kernel
theorem dX8_back_142 : decode cX8_back 142 = .ok (.getfield 26, 3) := by decide +kernel
theorem dX8_back_145 : decode cX8_back 145 = .ok (.iload_n 1, 1) := by decide +kernel
theorem dX8_back_146 : decode cX8_back 146 = .ok (.aaload, 1) := by decide +kernel
theorem dX8_back_147 : decode cX8_back 147 = .ok (.iconst 0, 1) := by decide +kernel
theorem dX8_back_148 : decode cX8_back 148 = .ok (.bipush 30, 2) := by decide +kernel
theorem dX8_back_150 : decode cX8_back 150 = .ok (.invokestatic 322, 3) := by decide +kernel
theorem dX8_back_153 : decode cX8_back 153 = .ok (.iinc 1 1, 3) := by decide +kernel
theorem dX8_back_156 : decode cX8_back 156 = .ok (.goto (-84), 3) := by decide +kernel
theorem dX8_back_159 : decode cX8_back 159 = .ok (.aload_n 0, 1) := by decide +kernel
theorem dX8_back_160 : decode cX8_back 160 = .ok (.getfield 100, 3) := by decide +kernel
theorem dX8_back_163 : decode cX8_back 163 = .ok (.iconst 3, 1) := by decide +kernel
theorem dX8_back_164 : decode cX8_back 164 = .ok (.aaload, 1) := by decide +kernel
theorem dX8_back_165 : decode cX8_back 165 = .ok (.iconst 0, 1) := by decide +kernel
theorem dX8_back_166 : decode cX8_back 166 = .ok (.aload_n 0, 1) := by decide +kernel
theorem dX8_back_167 : decode cX8_back 167 = .ok (.getfield 9, 3) := by decide +kernel
theorem dX8_back_170 : decode cX8_back 170 = .ok (.iconst 0, 1) := by decide +kernel
theorem dX8_back_171 : decode cX8_back 171 = .ok (.bipush 30, 2) := by decide +kernel
theorem dX8_back_173 : decode cX8_back 173 = .ok (.invokestatic 322, 3) := by decide +kernel
theorem dX8_back_176 : decode cX8_back 176 = .ok (.aload_n 0, 1) := by decide +kernel
theorem dX8_back_177 : decode cX8_back 177 = .ok (.getfield 100, 3) := by decide +kernel
theorem dX8_back_180 : decode cX8_back 180 = .ok (.iconst 4, 1) := by decide +kernel
theorem dX8_back_181 : decode cX8_back 181 = .ok (.aaload, 1) := by decide +kernel
theorem dX8_back_182 : decode cX8_back 182 = .ok (.iconst 0, 1) := by decide +kernel
theorem dX8_back_183 : decode cX8_back 183 = .ok (.aload_n 0, 1) := by decide +kernel
theorem dX8_back_184 : decode cX8_back 184 = .ok (.getfield 36, 3) := by decide +kernel
theorem dX8_back_187 : decode cX8_back 187 = .ok (.iconst 0, 1) := by decide +kernel
theorem dX8_back_188 : decode cX8_back 188 = .ok (.bipush 6, 2) := by decide +kernel
theorem dX8_back_190 : decode cX8_back 190 = .ok (.invokestatic 322, 3) := by decide +kernel
theorem dX8_back_193 : decode cX8_back 193 = .ok (.iconst 0, 1) := by decide +kernel
theorem dX8_back_194 : decode cX8_back 194 = .ok (.istore_n 1, 1) := by decide +kernel
theorem dX8_back_195 : decode cX8_back 195 = .ok (.iload_n 1, 1) := by decide +kernel
theorem dX8_back_196 : decode cX8_back 196 = .ok (.bipush 6, 2) := by decide +kernel
theorem dX8_back_198 : decode cX8_back 198 = .ok (.if_icmp .ge 28, 3) := by decide +kernel
theorem dX8_back_201 : decode cX8_back 201 = .ok (.aload_n 0, 1) := by decide +kernel
theorem dX8_back_202 : decode cX8_back 202 = .ok (.getfield 112, 3) := by decide +kernel
theorem dX8_back_205 : decode cX8_back 205 = .ok (.iload_n 1, 1) := by decide +kernel
theorem dX8_back_206 : decode cX8_back 206 = .ok (.aaload, 1) := by decide +kernel
theorem dX8_back_207 : decode cX8_back 207 = .ok (.iconst 0, 1) := by decide +kernel
theorem dX8_back_208 : decode cX8_back 208 = .ok (.aload_n 0, 1) := by decide +kernel
theorem dX8_back_209 : decode cX8_back 209 = .ok (.getfield 43, 3) := by decide +kernel
theorem dX8_back_212 : decode cX8_back 212 = .ok (.iload_n 1, 1) := by decide +kernel
theorem dX8_back_213 : decode cX8_back 213 = .ok (.aaload, 1) := by decide +kernel
theorem dX8_back_214 : decode cX8_back 214 = .ok (.iconst 0, 1) := by decide +kernel
theorem dX8_back_215 : decode cX8_back 215 = .ok (.bipush 8, 2) := by decide +kernel
theorem dX8_back_217 : decode cX8_back 217 = .ok (.invokestatic 322, 3) := by decide +kernel
theorem dX8_back_220 : decode cX8_back 220 = .ok (.iinc 1 1, 3) := by decide +kernel
theorem dX8_back_223 : decode cX8_back 223 = .ok (.goto (-28), 3) := by decide +kernel
theorem dX8_back_226 : decode cX8_back 226 = .ok (.aload_n 0, 1) := by decide +kernel
theorem dX8_back_227 : decode cX8_back 227 = .ok (.getfield 115, 3) := by decide +kernel
theorem dX8_back_230 : decode cX8_back 230 = .ok (.iconst 0, 1) := by decide +kernel
theorem dX8_back_231 : decode cX8_back 231 = .ok (.aload_n 0, 1) := by decide +kernel
theorem dX8_back_232 : decode cX8_back 232 = .ok (.getfield 39, 3) := by decide +kernel
theorem dX8_back_235 : decode cX8_back 235 = .ok (.iconst 0, 1) := by decide +kernel
theorem dX8_back_236 : decode cX8_back 236 = .ok (.bipush 6, 2) := by decide +kernel
theorem dX8_back_238 : decode cX8_back 238 = .ok (.invokestatic 322, 3) := by decide +kernel
theorem dX8_back_241 : decode cX8_back 241 = .ok (.aload_n 0, 1) := by decide +kernel
theorem dX8_back_242 : decode cX8_back 242 = .ok (.getfield 130, 3) := by decide +kernel
theorem dX8_back_245 : decode cX8_back 245 = .ok (.ireturn, 1) := by decide +kernel
theorem dX8_count_0 : decode cX8_count 0 = .ok (.iconst 0, 1) := by decide +kernel
theorem dX8_count_1 : decode cX8_count 1 = .ok (.istore_n 2, 1) := by decide +kernel
theorem dX8_count_2 : decode cX8_count 2 = .ok (.iload_n 1, 1) := by decide +kernel
theorem dX8_count_3 : decode cX8_count 3 = .ok (.tableswitch 93 0 6 #[41, 41, 41, 73, 78, 83, 88], 41) := by decide +kernel
theorem dX8_count_44 : decode cX8_count 44 = .ok (.iconst 0, 1) := by decide +kernel
theorem dX8_count_45 : decode cX8_count 45 = .ok (.istore_n 3, 1) := by decide +kernel
theorem dX8_count_46 : decode cX8_count 46 = .ok (.iload_n 3, 1) := by decide +kernel
theorem dX8_count_47 : decode cX8_count 47 = .ok (.aload_n 0, 1) := by decide +kernel
theorem dX8_count_48 : decode cX8_count 48 = .ok (.getfield 130, 3) := by decide +kernel
theorem dX8_count_51 : decode cX8_count 51 = .ok (.if_icmp .ge 23, 3) := by decide +kernel
theorem dX8_count_54 : decode cX8_count 54 = .ok (.aload_n 0, 1) := by decide +kernel
theorem dX8_count_55 : decode cX8_count 55 = .ok (.getfield 15, 3) := by decide +kernel
theorem dX8_count_58 : decode cX8_count 58 = .ok (.iload_n 1, 1) := by decide +kernel
theorem dX8_count_59 : decode cX8_count 59 = .ok (.aaload, 1) := by decide +kernel
theorem dX8_count_60 : decode cX8_count 60 = .ok (.iload_n 3, 1) := by decide +kernel
theorem dX8_count_61 : decode cX8_count 61 = .ok (.baload, 1) := by decide +kernel
theorem dX8_count_62 : decode cX8_count 62 = .ok (.ifCond .eq 6, 3) := by decide +kernel
theorem dX8_count_65 : decode cX8_count 65 = .ok (.iinc 2 1, 3) := by decide +kernel
theorem dX8_count_68 : decode cX8_count 68 = .ok (.iinc 3 1, 3) := by decide +kernel
theorem dX8_count_71 : decode cX8_count 71 = .ok (.goto (-25), 3) := by decide +kernel
theorem dX8_count_74 : decode cX8_count 74 = .ok (.iload_n 2, 1) := by decide +kernel
theorem dX8_count_75 : decode cX8_count 75 = .ok (.ireturn, 1) := by decide +kernel
theorem dX8_count_76 : decode cX8_count 76 = .ok (.aload_n 0, 1) := by decide +kernel
theorem dX8_count_77 : decode cX8_count 77 = .ok (.getfield 130, 3) := by decide +kernel
theorem dX8_count_80 : decode cX8_count 80 = .ok (.ireturn, 1) := by decide +kernel
theorem dX8_count_81 : decode cX8_count 81 = .ok (.aload_n 0, 1) := by decide +kernel
theorem dX8_count_82 : decode cX8_count 82 = .ok (.getfield 230, 3) := by decide +kernel
theorem dX8_count_85 : decode cX8_count 85 = .ok (.ireturn, 1) := by decide +kernel
theorem dX8_count_86 : decode cX8_count 86 = .ok (.aload_n 0, 1) := by decide +kernel
theorem dX8_count_87 : decode cX8_count 87 = .ok (.getfield 208, 3) := by decide +kernel
theorem dX8_count_90 : decode cX8_count 90 = .ok (.ireturn, 1) := by decide +kernel
theorem dX8_count_91 : decode cX8_count 91 = .ok (.aload_n 0, 1) := by decide +kernel
theorem dX8_count_92 : decode cX8_count 92 = .ok (.getfield 288, 3) := by decide +kernel
theorem dX8_count_95 : decode cX8_count 95 = .ok (.ireturn, 1) := by decide +kernel
theorem dX8_count_96 : decode cX8_count 96 = .ok (.bipush (-2), 2) := by decide +kernel
theorem dX8_count_98 : decode cX8_count 98 = .ok (.ireturn, 1) := by decide +kernel
theorem dX8_isSheet_0 : decode cX8_isSheet 0 = .ok (.iload_n 0, 1) := by decide +kernel
theorem dX8_isSheet_1 : decode cX8_isSheet 1 = .ok (.iconst 0, 1) := by decide +kernel
theorem dX8_isSheet_2 : decode cX8_isSheet 2 = .ok (.iconst 3, 1) := by decide +kernel
theorem dX8_isSheet_3 : decode cX8_isSheet 3 = .ok (.invokestatic 133, 3) := by decide +kernel
theorem dX8_isSheet_6 : decode cX8_isSheet 6 = .ok (.ireturn, 1) := by decide +kernel
theorem dX8_sheet_0 : decode cX8_sheet 0 = .ok (.iload_n 1, 1) := by decide +kernel
theorem dX8_sheet_1 : decode cX8_sheet 1 = .ok (.invokestatic 360, 3) := by decide +kernel
theorem dX8_sheet_4 : decode cX8_sheet 4 = .ok (.ifCond .eq 22, 3) := by decide +kernel
theorem dX8_sheet_7 : decode cX8_sheet 7 = .ok (.iload_n 2, 1) := by decide +kernel
theorem dX8_sheet_8 : decode cX8_sheet 8 = .ok (.iconst (-1), 1) := by decide +kernel
theorem dX8_sheet_9 : decode cX8_sheet 9 = .ok (.iconst 1, 1) := by decide +kernel
theorem dX8_sheet_10 : decode cX8_sheet 10 = .ok (.invokestatic 133, 3) := by decide +kernel
theorem dX8_sheet_13 : decode cX8_sheet 13 = .ok (.ifCond .eq 13, 3) := by decide +kernel
theorem dX8_sheet_16 : decode cX8_sheet 16 = .ok (.iload_n 2, 1) := by decide +kernel
theorem dX8_sheet_17 : decode cX8_sheet 17 = .ok (.ifCond .lt 12, 3) := by decide +kernel
theorem dX8_sheet_20 : decode cX8_sheet 20 = .ok (.iload_n 3, 1) := by decide +kernel
theorem dX8_sheet_21 : decode cX8_sheet 21 = .ok (.bipush 40, 2) := by decide +kernel
theorem dX8_sheet_23 : decode cX8_sheet 23 = .ok (.if_icmp .le 6, 3) := by decide +kernel
theorem dX8_sheet_26 : decode cX8_sheet 26 = .ok (.bipush (-2), 2) := by decide +kernel
theorem dX8_sheet_28 : decode cX8_sheet 28 = .ok (.ireturn, 1) := by decide +kernel
theorem dX8_sheet_29 : decode cX8_sheet 29 = .ok (.iload_n 2, 1) := by decide +kernel
theorem dX8_sheet_30 : decode cX8_sheet 30 = .ok (.ifCond .lt 10, 3) := by decide +kernel
theorem dX8_sheet_33 : decode cX8_sheet 33 = .ok (.iload_n 3, 1) := by decide +kernel
theorem dX8_sheet_34 : decode cX8_sheet 34 = .ok (.ifCond .ge 6, 3) := by decide +kernel
theorem dX8_sheet_37 : decode cX8_sheet 37 = .ok (.bipush (-14), 2) := by decide +kernel
theorem dX8_sheet_39 : decode cX8_sheet 39 = .ok (.ireturn, 1) := by decide +kernel
theorem dX8_sheet_40 : decode cX8_sheet 40 = .ok (.aload_n 0, 1) := by decide +kernel
theorem dX8_sheet_41 : decode cX8_sheet 41 = .ok (.getfield 118, 3) := by decide +kernel
theorem dX8_sheet_44 : decode cX8_sheet 44 = .ok (.iload_n 1, 1) := by decide +kernel
theorem dX8_sheet_45 : decode cX8_sheet 45 = .ok (.iload_n 2, 1) := by decide +kernel
theorem dX8_sheet_46 : decode cX8_sheet 46 = .ok (.iastore, 1) := by decide +kernel
theorem dX8_sheet_47 : decode cX8_sheet 47 = .ok (.aload_n 0, 1) := by decide +kernel
theorem dX8_sheet_48 : decode cX8_sheet 48 = .ok (.getfield 121, 3) := by decide +kernel
theorem dX8_sheet_51 : decode cX8_sheet 51 = .ok (.iload_n 1, 1) := by decide +kernel
theorem dX8_sheet_52 : decode cX8_sheet 52 = .ok (.iload_n 2, 1) := by decide +kernel
theorem dX8_sheet_53 : decode cX8_sheet 53 = .ok (.ifCond .ge 7, 3) := by decide +kernel
theorem dX8_sheet_56 : decode cX8_sheet 56 = .ok (.iconst 0, 1) := by decide +kernel
theorem dX8_sheet_57 : decode cX8_sheet 57 = .ok (.goto 4, 3) := by decide +kernel
theorem dX8_sheet_60 : decode cX8_sheet 60 = .ok (.iload_n 3, 1) := by decide +kernel
theorem dX8_sheet_61 : decode cX8_sheet 61 = .ok (.iastore, 1) := by decide +kernel
theorem dX8_sheet_62 : decode cX8_sheet 62 = .ok (.iconst 0, 1) := by decide +kernel
theorem dX8_sheet_63 : decode cX8_sheet 63 = .ok (.istore 4, 2) := by decide +kernel
theorem dX8_sheet_65 : decode cX8_sheet 65 = .ok (.iload 4, 2) := by decide +kernel
theorem dX8_sheet_67 : decode cX8_sheet 67 = .ok (.bipush 40, 2) := by decide +kernel
theorem dX8_sheet_69 : decode cX8_sheet 69 = .ok (.if_icmp .ge 19, 3) := by decide +kernel
theorem dX8_sheet_72 : decode cX8_sheet 72 = .ok (.aload_n 0, 1) := by decide +kernel
theorem dX8_sheet_73 : decode cX8_sheet 73 = .ok (.getfield 124, 3) := by decide +kernel
theorem dX8_sheet_76 : decode cX8_sheet 76 = .ok (.iload_n 1, 1) := by decide +kernel
theorem dX8_sheet_77 : decode cX8_sheet 77 = .ok (.aaload, 1) := by decide +kernel
theorem dX8_sheet_78 : decode cX8_sheet 78 = .ok (.iload 4, 2) := by decide +kernel
theorem dX8_sheet_80 : decode cX8_sheet 80 = .ok (.iconst 0, 1) := by decide +kernel
theorem dX8_sheet_81 : decode cX8_sheet 81 = .ok (.iastore, 1) := by decide +kernel
theorem dX8_sheet_82 : decode cX8_sheet 82 = .ok (.iinc 4 1, 3) := by decide +kernel
theorem dX8_sheet_85 : decode cX8_sheet 85 = .ok (.goto (-20), 3) := by decide +kernel
theorem dX8_sheet_88 : decode cX8_sheet 88 = .ok (.iconst 1, 1) := by decide +kernel
theorem dX8_sheet_89 : decode cX8_sheet 89 = .ok (.ireturn, 1) := by decide +kernel
theorem dX8_cell_0 : decode cX8_cell 0 = .ok (.iload_n 1, 1) := by decide +kernel
theorem dX8_cell_1 : decode cX8_cell 1 = .ok (.invokestatic 360, 3) := by decide +kernel
theorem dX8_cell_4 : decode cX8_cell 4 = .ok (.ifCond .ne 6, 3) := by decide +kernel
theorem dX8_cell_7 : decode cX8_cell 7 = .ok (.bipush (-2), 2) := by decide +kernel
theorem dX8_cell_9 : decode cX8_cell 9 = .ok (.ireturn, 1) := by decide +kernel
theorem dX8_cell_10 : decode cX8_cell 10 = .ok (.aload_n 0, 1) := by decide +kernel
theorem dX8_cell_11 : decode cX8_cell 11 = .ok (.getfield 118, 3) := by decide +kernel
theorem dX8_cell_14 : decode cX8_cell 14 = .ok (.iload_n 1, 1) := by decide +kernel
theorem dX8_cell_15 : decode cX8_cell 15 = .ok (.iaload, 1) := by decide +kernel
theorem dX8_cell_16 : decode cX8_cell 16 = .ok (.ifCond .ge 6, 3) := by decide +kernel
theorem dX8_cell_19 : decode cX8_cell 19 = .ok (.bipush (-11), 2) := by decide +kernel
theorem dX8_cell_21 : decode cX8_cell 21 = .ok (.ireturn, 1) := by decide +kernel
theorem dX8_cell_22 : decode cX8_cell 22 = .ok (.iload_n 2, 1) := by decide +kernel
theorem dX8_cell_23 : decode cX8_cell 23 = .ok (.iconst 0, 1) := by decide +kernel
theorem dX8_cell_24 : decode cX8_cell 24 = .ok (.aload_n 0, 1) := by decide +kernel
theorem dX8_cell_25 : decode cX8_cell 25 = .ok (.getfield 121, 3) := by decide +kernel
theorem dX8_cell_28 : decode cX8_cell 28 = .ok (.iload_n 1, 1) := by decide +kernel
theorem dX8_cell_29 : decode cX8_cell 29 = .ok (.iaload, 1) := by decide +kernel
theorem dX8_cell_30 : decode cX8_cell 30 = .ok (.iconst 1, 1) := by decide +kernel
theorem dX8_cell_31 : decode cX8_cell 31 = .ok (.isub, 1) := by decide +kernel
theorem dX8_cell_32 : decode cX8_cell 32 = .ok (.invokestatic 133, 3) := by decide +kernel
theorem dX8_cell_35 : decode cX8_cell 35 = .ok (.ifCond .ne 6, 3) := by decide +kernel
theorem dX8_cell_38 : decode cX8_cell 38 = .ok (.bipush (-12), 2) := by decide +kernel
theorem dX8_cell_40 : decode cX8_cell 40 = .ok (.ireturn, 1) := by decide +kernel
theorem dX8_cell_41 : decode cX8_cell 41 = .ok (.aload_n 0, 1) := by decide +kernel
theorem dX8_cell_42 : decode cX8_cell 42 = .ok (.getfield 124, 3) := by decide +kernel
theorem dX8_cell_45 : decode cX8_cell 45 = .ok (.iload_n 1, 1) := by decide +kernel
theorem dX8_cell_46 : decode cX8_cell 46 = .ok (.aaload, 1) := by decide +kernel
theorem dX8_cell_47 : decode cX8_cell 47 = .ok (.iload_n 2, 1) := by decide +kernel
theorem dX8_cell_48 : decode cX8_cell 48 = .ok (.aload_n 0, 1) := by decide +kernel
theorem dX8_cell_49 : decode cX8_cell 49 = .ok (.getfield 118, 3) := by decide +kernel
theorem dX8_cell_52 : decode cX8_cell 52 = .ok (.iload_n 1, 1) := by decide +kernel
theorem dX8_cell_53 : decode cX8_cell 53 = .ok (.iaload, 1) := by decide +kernel
theorem dX8_cell_54 : decode cX8_cell 54 = .ok (.ifCond .ne 8, 3) := by decide +kernel
theorem dX8_cell_57 : decode cX8_cell 57 = .ok (.iload_n 3, 1) := by decide +kernel
theorem dX8_cell_58 : decode cX8_cell 58 = .ok (.i2s, 1) := by decide +kernel
theorem dX8_cell_59 : decode cX8_cell 59 = .ok (.goto 4, 3) := by decide +kernel
theorem dX8_cell_62 : decode cX8_cell 62 = .ok (.iload_n 3, 1) := by decide +kernel
theorem dX8_cell_63 : decode cX8_cell 63 = .ok (.iastore, 1) := by decide +kernel
theorem dX8_cell_64 : decode cX8_cell 64 = .ok (.iconst 1, 1) := by decide +kernel
theorem dX8_cell_65 : decode cX8_cell 65 = .ok (.ireturn, 1) := by decide +kernel
theorem dX8_copy_0 : decode cX8_copy 0 = .ok (.iload_n 1, 1) := by decide +kernel
theorem dX8_copy_1 : decode cX8_copy 1 = .ok (.invokestatic 360, 3) := by decide +kernel
theorem dX8_copy_4 : decode cX8_copy 4 = .ok (.ifCond .eq 10, 3) := by decide +kernel
theorem dX8_copy_7 : decode cX8_copy 7 = .ok (.iload_n 3, 1) := by decide +kernel
theorem dX8_copy_8 : decode cX8_copy 8 = .ok (.invokestatic 360, 3) := by decide +kernel
theorem dX8_copy_11 : decode cX8_copy 11 = .ok (.ifCond .ne 6, 3) := by decide +kernel
theorem dX8_copy_14 : decode cX8_copy 14 = .ok (.bipush (-2), 2) := by decide +kernel
theorem dX8_copy_16 : decode cX8_copy 16 = .ok (.ireturn, 1) := by decide +kernel
theorem dX8_copy_17 : decode cX8_copy 17 = .ok (.aload_n 0, 1) := by decide +kernel
theorem dX8_copy_18 : decode cX8_copy 18 = .ok (.getfield 118, 3) := by decide +kernel
theorem dX8_copy_21 : decode cX8_copy 21 = .ok (.iload_n 1, 1) := by decide +kernel
theorem dX8_copy_22 : decode cX8_copy 22 = .ok (.iaload, 1) := by decide +kernel
theorem dX8_copy_23 : decode cX8_copy 23 = .ok (.ifCond .lt 12, 3) := by decide +kernel
theorem dX8_copy_26 : decode cX8_copy 26 = .ok (.aload_n 0, 1) := by decide +kernel
theorem dX8_copy_27 : decode cX8_copy 27 = .ok (.getfield 118, 3) := by decide +kernel
theorem dX8_copy_30 : decode cX8_copy 30 = .ok (.iload_n 3, 1) := by decide +kernel
theorem dX8_copy_31 : decode cX8_copy 31 = .ok (.iaload, 1) := by decide +kernel
theorem dX8_copy_32 : decode cX8_copy 32 = .ok (.ifCond .ge 6, 3) := by decide +kernel
theorem dX8_copy_35 : decode cX8_copy 35 = .ok (.bipush (-11), 2) := by decide +kernel
theorem dX8_copy_37 : decode cX8_copy 37 = .ok (.ireturn, 1) := by decide +kernel
theorem dX8_copy_38 : decode cX8_copy 38 = .ok (.aload_n 0, 1) := by decide +kernel
theorem dX8_copy_39 : decode cX8_copy 39 = .ok (.getfield 118, 3) := by decide +kernel
theorem dX8_copy_42 : decode cX8_copy 42 = .ok (.iload_n 1, 1) := by decide +kernel
theorem dX8_copy_43 : decode cX8_copy 43 = .ok (.iaload, 1) := by decide +kernel
theorem dX8_copy_44 : decode cX8_copy 44 = .ok (.aload_n 0, 1) := by decide +kernel
theorem dX8_copy_45 : decode cX8_copy 45 = .ok (.getfield 118, 3) := by decide +kernel
theorem dX8_copy_48 : decode cX8_copy 48 = .ok (.iload_n 3, 1) := by decide +kernel
theorem dX8_copy_49 : decode cX8_copy 49 = .ok (.iaload, 1) := by decide +kernel
theorem dX8_copy_50 : decode cX8_copy 50 = .ok (.if_icmp .eq 6, 3) := by decide +kernel
theorem dX8_copy_53 : decode cX8_copy 53 = .ok (.bipush (-13), 2) := by decide +kernel
theorem dX8_copy_55 : decode cX8_copy 55 = .ok (.ireturn, 1) := by decide +kernel
theorem dX8_copy_56 : decode cX8_copy 56 = .ok (.iload 5, 2) := by decide +kernel
theorem dX8_copy_58 : decode cX8_copy 58 = .ok (.ifCond .lt 39, 3) := by decide +kernel
theorem dX8_copy_61 : decode cX8_copy 61 = .ok (.iload_n 2, 1) := by decide +kernel
theorem dX8_copy_62 : decode cX8_copy 62 = .ok (.ifCond .lt 35, 3) := by decide +kernel
theorem dX8_copy_65 : decode cX8_copy 65 = .ok (.iload 4, 2) := by decide +kernel
theorem dX8_copy_67 : decode cX8_copy 67 = .ok (.ifCond .lt 30, 3) := by decide +kernel
theorem dX8_copy_70 : decode cX8_copy 70 = .ok (.iload_n 2, 1) := by decide +kernel
theorem dX8_copy_71 : decode cX8_copy 71 = .ok (.aload_n 0, 1) := by decide +kernel
theorem dX8_copy_72 : decode cX8_copy 72 = .ok (.getfield 121, 3) := by decide +kernel
theorem dX8_copy_75 : decode cX8_copy 75 = .ok (.iload_n 1, 1) := by decide +kernel
theorem dX8_copy_76 : decode cX8_copy 76 = .ok (.iaload, 1) := by decide +kernel
theorem dX8_copy_77 : decode cX8_copy 77 = .ok (.iload 5, 2) := by decide +kernel
theorem dX8_copy_79 : decode cX8_copy 79 = .ok (.isub, 1) := by decide +kernel
theorem dX8_copy_80 : decode cX8_copy 80 = .ok (.if_icmp .gt 17, 3) := by decide +kernel
theorem dX8_copy_83 : decode cX8_copy 83 = .ok (.iload 4, 2) := by decide +kernel
theorem dX8_copy_85 : decode cX8_copy 85 = .ok (.aload_n 0, 1) := by decide +kernel
theorem dX8_copy_86 : decode cX8_copy 86 = .ok (.getfield 121, 3) := by decide +kernel
theorem dX8_copy_89 : decode cX8_copy 89 = .ok (.iload_n 3, 1) := by decide +kernel
theorem dX8_copy_90 : decode cX8_copy 90 = .ok (.iaload, 1) := by decide +kernel
theorem dX8_copy_91 : decode cX8_copy 91 = .ok (.iload 5, 2) := by decide +kernel
theorem dX8_copy_93 : decode cX8_copy 93 = .ok (.isub, 1) := by decide +kernel
theorem dX8_copy_94 : decode cX8_copy 94 = .ok (.if_icmp .le 6, 3) := by decide +kernel
theorem dX8_copy_97 : decode cX8_copy 97 = .ok (.bipush (-12), 2) := by decide +kernel
theorem dX8_copy_99 : decode cX8_copy 99 = .ok (.ireturn, 1) := by decide +kernel
theorem dX8_copy_100 : decode cX8_copy 100 = .ok (.aload_n 0, 1) := by decide +kernel
theorem dX8_copy_101 : decode cX8_copy 101 = .ok (.getfield 124, 3) := by decide +kernel
theorem dX8_copy_104 : decode cX8_copy 104 = .ok (.iload_n 1, 1) := by decide +kernel
theorem dX8_copy_105 : decode cX8_copy 105 = .ok (.aaload, 1) := by decide +kernel
theorem dX8_copy_106 : decode cX8_copy 106 = .ok (.iload_n 2, 1) := by decide +kernel
theorem dX8_copy_107 : decode cX8_copy 107 = .ok (.aload_n 0, 1) := by decide +kernel
theorem dX8_copy_108 : decode cX8_copy 108 = .ok (.getfield 127, 3) := by decide +kernel
theorem dX8_copy_111 : decode cX8_copy 111 = .ok (.iconst 0, 1) := by decide +kernel
theorem dX8_copy_112 : decode cX8_copy 112 = .ok (.iload 5, 2) := by decide +kernel
theorem dX8_copy_114 : decode cX8_copy 114 = .ok (.invokestatic 322, 3) := by decide +kernel
theorem dX8_copy_117 : decode cX8_copy 117 = .ok (.aload_n 0, 1) := by decide +kernel
theorem dX8_copy_118 : decode cX8_copy 118 = .ok (.getfield 127, 3) := by decide +kernel
theorem dX8_copy_121 : decode cX8_copy 121 = .ok (.iconst 0, 1) := by decide +kernel
theorem dX8_copy_122 : decode cX8_copy 122 = .ok (.aload_n 0, 1) := by decide +kernel
theorem dX8_copy_123 : decode cX8_copy 123 = .ok (.getfield 124, 3) := by decide +kernel
theorem dX8_copy_126 : decode cX8_copy 126 = .ok (.iload_n 3, 1) := by decide +kernel
theorem dX8_copy_127 : decode cX8_copy 127 = .ok (.aaload, 1) := by decide +kernel
theorem dX8_copy_128 : decode cX8_copy 128 = .ok (.iload 4, 2) := by decide +kernel
theorem dX8_copy_130 : decode cX8_copy 130 = .ok (.iload 5, 2) := by decide +kernel
theorem dX8_copy_132 : decode cX8_copy 132 = .ok (.invokestatic 322, 3) := by decide +kernel
theorem dX8_copy_135 : decode cX8_copy 135 = .ok (.iload 5, 2) := by decide +kernel
theorem dX8_copy_137 : decode cX8_copy 137 = .ok (.ireturn, 1) := by decide +kernel
