theorem dX12_init_0 : decode cX12_init 0 = .ok (.aload_n 0, 1) := by decide +kernel
theorem dX12_init_1 : decode cX12_init 1 = .ok (.invokespecial 1, 3) := by decide +kernel
theorem dX12_init_4 : decode cX12_init 4 = .ok (.aload_n 0, 1) := by decide +kernel
theorem dX12_init_5 : decode cX12_init 5 = .ok (.ldc 7, 2) := by decide +kernel
theorem dX12_init_7 : decode cX12_init 7 = .ok (.newarray .int, 2) := by decide +kernel
theorem dX12_init_9 : decode cX12_init 9 = .ok (.putfield 8, 3) := by decide +kernel
theorem dX12_init_12 : decode cX12_init 12 = .ok (.aload_n 0, 1) := by decide +kernel
theorem dX12_init_13 : decode cX12_init 13 = .ok (.ldc 7, 2) := by decide +kernel
theorem dX12_init_15 : decode cX12_init 15 = .ok (.newarray .int, 2) := by decide +kernel
theorem dX12_init_17 : decode cX12_init 17 = .ok (.putfield 14, 3) := by decide +kernel
theorem dX12_init_20 : decode cX12_init 20 = .ok (.aload_n 0, 1) := by decide +kernel
theorem dX12_init_21 : decode cX12_init 21 = .ok (.bipush 7, 2) := by decide +kernel
theorem dX12_init_23 : decode cX12_init 23 = .ok (.newarray .int, 2) := by decide +kernel
theorem dX12_init_25 : decode cX12_init 25 = .ok (.putfield 17, 3) := by decide +kernel
theorem dX12_init_28 : decode cX12_init 28 = .ok (.aload_n 0, 1) := by decide +kernel
theorem dX12_init_29 : decode cX12_init 29 = .ok (.bipush 7, 2) := by decide +kernel
theorem dX12_init_31 : decode cX12_init 31 = .ok (.newarray .int, 2) := by decide +kernel
theorem dX12_init_33 : decode cX12_init 33 = .ok (.putfield 20, 3) := by decide +kernel
theorem dX12_init_36 : decode cX12_init 36 = .ok (.aload_n 0, 1) := by decide +kernel
theorem dX12_init_37 : decode cX12_init 37 = .ok (.bipush 42, 2) := by decide +kernel
theorem dX12_init_39 : decode cX12_init 39 = .ok (.newarray .int, 2) := by decide +kernel
theorem dX12_init_41 : decode cX12_init 41 = .ok (.putfield 23, 3) := by decide +kernel
theorem dX12_init_44 : decode cX12_init 44 = .ok (.aload_n 0, 1) := by decide +kernel
theorem dX12_init_45 : decode cX12_init 45 = .ok (.bipush 42, 2) := by decide +kernel
theorem dX12_init_47 : decode cX12_init 47 = .ok (.newarray .int, 2) := by decide +kernel
theorem dX12_init_49 : decode cX12_init 49 = .ok (.putfield 26, 3) := by decide +kernel
theorem dX12_init_52 : decode cX12_init 52 = .ok (.aload_n 0, 1) := by decide +kernel
theorem dX12_init_53 : decode cX12_init 53 = .ok (.bipush 7, 2) := by decide +kernel
theorem dX12_init_55 : decode cX12_init 55 = .ok (.newarray .boolean, 2) := by decide +kernel
theorem dX12_init_57 : decode cX12_init 57 = .ok (.putfield 29, 3) := by decide +kernel
theorem dX12_init_60 : decode cX12_init 60 = .ok (.aload_n 0, 1) := by decide +kernel
theorem dX12_init_61 : decode cX12_init 61 = .ok (.bipush 7, 2) := by decide +kernel
theorem dX12_init_63 : decode cX12_init 63 = .ok (.newarray .boolean, 2) := by decide +kernel
theorem dX12_init_65 : decode cX12_init 65 = .ok (.putfield 33, 3) := by decide +kernel
theorem dX12_init_68 : decode cX12_init 68 = .ok (.aload_n 0, 1) := by decide +kernel
theorem dX12_init_69 : decode cX12_init 69 = .ok (.bipush 40, 2) := by decide +kernel
theorem dX12_init_71 : decode cX12_init 71 = .ok (.newarray .int, 2) := by decide +kernel
theorem dX12_init_73 : decode cX12_init 73 = .ok (.putfield 36, 3) := by decide +kernel
theorem dX12_init_76 : decode cX12_init 76 = .ok (.aload_n 0, 1) := by decide +kernel
theorem dX12_init_77 : decode cX12_init 77 = .ok (.sipush 784, 3) := by decide +kernel
theorem dX12_init_80 : decode cX12_init 80 = .ok (.newarray .int, 2) := by decide +kernel
theorem dX12_init_82 : decode cX12_init 82 = .ok (.putfield 39, 3) := by decide +kernel
theorem dX12_init_85 : decode cX12_init 85 = .ok (.aload_n 0, 1) := by decide +kernel
theorem dX12_init_86 : decode cX12_init 86 = .ok (.sipush 784, 3) := by decide +kernel
theorem dX12_init_89 : decode cX12_init 89 = .ok (.newarray .int, 2) := by decide +kernel
theorem dX12_init_91 : decode cX12_init 91 = .ok (.putfield 42, 3) := by decide +kernel
theorem dX12_init_94 : decode cX12_init 94 = .ok (.aload_n 0, 1) := by decide +kernel
theorem dX12_init_95 : decode cX12_init 95 = .ok (.sipush 784, 3) := by decide +kernel
theorem dX12_init_98 : decode cX12_init 98 = .ok (.newarray .int, 2) := by decide +kernel
theorem dX12_init_100 : decode cX12_init 100 = .ok (.putfield 45, 3) := by decide +kernel
theorem dX12_init_103 : decode cX12_init 103 = .ok (.aload_n 0, 1) := by decide +kernel
theorem dX12_init_104 : decode cX12_init 104 = .ok (.sipush 784, 3) := by decide +kernel
theorem dX12_init_107 : decode cX12_init 107 = .ok (.newarray .int, 2) := by decide +kernel
theorem dX12_init_109 : decode cX12_init 109 = .ok (.putfield 48, 3) := by decide +kernel
theorem dX12_init_112 : decode cX12_init 112 = .ok (.aload_n 0, 1) := by decide +kernel
theorem dX12_init_113 : decode cX12_init 113 = .ok (.sipush 784, 3) := by decide +kernel
theorem dX12_init_116 : decode cX12_init 116 = .ok (.newarray .int, 2) := by decide +kernel
theorem dX12_init_118 : decode cX12_init 118 = .ok (.putfield 51, 3) := by decide +kernel
theorem dX12_init_121 : decode cX12_init 121 = .ok (.aload_n 0, 1) := by decide +kernel
theorem dX12_init_122 : decode cX12_init 122 = .ok (.sipush 784, 3) := by decide +kernel
theorem dX12_init_125 : decode cX12_init 125 = .ok (.newarray .int, 2) := by decide +kernel
theorem dX12_init_127 : decode cX12_init 127 = .ok (.putfield 54, 3) := by decide +kernel
theorem dX12_init_130 : decode cX12_init 130 = .ok (.aload_n 0, 1) := by decide +kernel
theorem dX12_init_131 : decode cX12_init 131 = .ok (.sipush 784, 3) := by decide +kernel
theorem dX12_init_134 : decode cX12_init 134 = .ok (.newarray .int, 2) := by decide +kernel
theorem dX12_init_136 : decode cX12_init 136 = .ok (.putfield 57, 3) := by decide +kernel
theorem dX12_init_139 : decode cX12_init 139 = .ok (.aload_n 0, 1) := by decide +kernel
theorem dX12_init_140 : decode cX12_init 140 = .ok (.sipush 784, 3) := by decide +kernel
theorem dX12_init_143 : decode cX12_init 143 = .ok (.newarray .int, 2) := by decide +kernel
theorem dX12_init_145 : decode cX12_init 145 = .ok (.putfield 60, 3) := by decide +kernel
theorem dX12_init_148 : decode cX12_init 148 = .ok (.aload_n 0, 1) := by decide +kernel
theorem dX12_init_149 : decode cX12_init 149 = .ok (.bipush 40, 2) := by decide +kernel
theorem dX12_init_151 : decode cX12_init 151 = .ok (.newarray .int, 2) := by decide +kernel
theorem dX12_init_153 : decode cX12_init 153 = .ok (.putfield 63, 3) := by decide +kernel
theorem dX12_init_156 : decode cX12_init 156 = .ok (.aload_n 0, 1) := by decide +kernel
theorem dX12_init_157 : decode cX12_init 157 = .ok (.bipush 40, 2) := by decide +kernel
theorem dX12_init_159 : decode cX12_init 159 = .ok (.newarray .int, 2) := by decide +kernel
theorem dX12_init_161 : decode cX12_init 161 = .ok (.putfield 66, 3) := by decide +kernel
theorem dX12_init_164 : decode cX12_init 164 = .ok (.aload_n 0, 1) := by decide +kernel
theorem dX12_init_165 : decode cX12_init 165 = .ok (.sipush 784, 3) := by decide +kernel
theorem dX12_init_168 : decode cX12_init 168 = .ok (.newarray .int, 2) := by decide +kernel
theorem dX12_init_170 : decode cX12_init 170 = .ok (.putfield 69, 3) := by decide +kernel
theorem dX12_init_173 : decode cX12_init 173 = .ok (.aload_n 0, 1) := by decide +kernel
theorem dX12_init_174 : decode cX12_init 174 = .ok (.sipush 784, 3) := by decide +kernel
theorem dX12_init_177 : decode cX12_init 177 = .ok (.newarray .int, 2) := by decide +kernel
theorem dX12_init_179 : decode cX12_init 179 = .ok (.putfield 72, 3) := by decide +kernel
theorem dX12_init_182 : decode cX12_init 182 = .ok (.aload_n 0, 1) := by decide +kernel
theorem dX12_init_183 : decode cX12_init 183 = .ok (.sipush 784, 3) := by decide +kernel
theorem dX12_init_186 : decode cX12_init 186 = .ok (.newarray .int, 2) := by decide +kernel
theorem dX12_init_188 : decode cX12_init 188 = .ok (.putfield 75, 3) := by decide +kernel
theorem dX12_init_191 : decode cX12_init 191 = .ok (.aload_n 0, 1) := by decide +kernel
theorem dX12_init_192 : decode cX12_init 192 = .ok (.iconst 3, 1) := by decide +kernel
theorem dX12_init_193 : decode cX12_init 193 = .ok (.newarray .int, 2) := by decide +kernel
theorem dX12_init_195 : decode cX12_init 195 = .ok (.putfield 78, 3) := by decide +kernel
theorem dX12_init_198 : decode cX12_init 198 = .ok (.aload_n 0, 1) := by decide +kernel
theorem dX12_init_199 : decode cX12_init 199 = .ok (.bipush 40, 2) := by decide +kernel
theorem dX12_init_201 : decode cX12_init 201 = .ok (.newarray .int, 2) := by decide +kernel
theorem dX12_init_203 : decode cX12_init 203 = .ok (.putfield 81, 3) := by decide +kernel
theorem dX12_init_206 : decode cX12_init 206 = .ok (.aload_n 0, 1) := by decide +kernel
theorem dX12_init_207 : decode cX12_init 207 = .ok (.bipush 40, 2) := by decide +kernel
theorem dX12_init_209 : decode cX12_init 209 = .ok (.newarray .int, 2) := by decide +kernel
theorem dX12_init_211 : decode cX12_init 211 = .ok (.putfield 84, 3) := by decide +kernel
theorem dX12_init_214 : decode cX12_init 214 = .ok (.aload_n 0, 1) := by decide +kernel
theorem dX12_init_215 : decode cX12_init 215 = .ok (.bipush 40, 2) := by decide +kernel
theorem dX12_init_217 : decode cX12_init 217 = .ok (.newarray .int, 2) := by decide +kernel
theorem dX12_init_219 : decode cX12_init 219 = .ok (.putfield 87, 3) := by decide +kernel
theorem dX12_init_222 : decode cX12_init 222 = .ok (.aload_n 0, 1) := by decide +kernel
theorem dX12_init_223 : decode cX12_init 223 = .ok (.sipush 300, 3) := by decide +kernel
theorem dX12_init_226 : decode cX12_init 226 = .ok (.newarray .int, 2) := by decide +kernel
theorem dX12_init_228 : decode cX12_init 228 = .ok (.putfield 90, 3) := by decide +kernel
theorem dX12_init_231 : decode cX12_init 231 = .ok (.aload_n 0, 1) := by decide +kernel
theorem dX12_init_232 : decode cX12_init 232 = .ok (.iconst (-1), 1) := by decide +kernel
theorem dX12_init_233 : decode cX12_init 233 = .ok (.putfield 93, 3) := by decide +kernel
theorem dX12_init_236 : decode cX12_init 236 = .ok (.aload_n 0, 1) := by decide +kernel
theorem dX12_init_237 : decode cX12_init 237 = .ok (.bipush 62, 2) := by decide +kernel
theorem dX12_init_239 : decode cX12_init 239 = .ok (.newarray .int, 2) := by decide +kernel
theorem dX12_init_241 : decode cX12_init 241 = .ok (.dup, 1) := by decide +kernel
theorem dX12_init_242 : decode cX12_init 242 = .ok (.iconst 0, 1) := by decide +kernel
theorem dX12_init_243 : decode cX12_init 243 = .ok (.iconst 3, 1) := by decide +kernel
theorem dX12_init_244 : decode cX12_init 244 = .ok (.iastore, 1) := by decide +kernel
theorem dX12_init_245 : decode cX12_init 245 = .ok (.dup, 1) := by decide +kernel
theorem dX12_init_246 : decode cX12_init 246 = .ok (.iconst 1, 1) := by decide +kernel
theorem dX12_init_247 : decode cX12_init 247 = .ok (.bipush 16, 2) := by decide +kernel
theorem dX12_init_249 : decode cX12_init 249 = .ok (.iastore, 1) := by decide +kernel
theorem dX12_init_250 : decode cX12_init 250 = .ok (.dup, 1) := by decide +kernel
theorem dX12_init_251 : decode cX12_init 251 = .ok (.iconst 2, 1) := by decide +kernel
theorem dX12_init_252 : decode cX12_init 252 = .ok (.bipush 21, 2) := by decide +kernel
theorem dX12_init_254 : decode cX12_init 254 = .ok (.iastore, 1) := by decide +kernel
theorem dX12_init_255 : decode cX12_init 255 = .ok (.dup, 1) := by decide +kernel
theorem dX12_init_256 : decode cX12_init 256 = .ok (.iconst 3, 1) := by decide +kernel
theorem dX12_init_257 : decode cX12_init 257 = .ok (.bipush 20, 2) := by decide +kernel
theorem dX12_init_259 : decode cX12_init 259 = .ok (.iastore, 1) := by decide +kernel
theorem dX12_init_260 : decode cX12_init 260 = .ok (.dup, 1) := by decide +kernel
theorem dX12_init_261 : decode cX12_init 261 = .ok (.iconst 4, 1) := by decide +kernel
theorem dX12_init_262 : decode cX12_init 262 = .ok (.iconst 4, 1) := by decide +kernel
theorem dX12_init_263 : decode cX12_init 263 = .ok (.iastore, 1) := by decide +kernel
theorem dX12_init_264 : decode cX12_init 264 = .ok (.dup, 1) := by decide +kernel
theorem dX12_init_265 : decode cX12_init 265 = .ok (.iconst 5, 1) := by decide +kernel
theorem dX12_init_266 : decode cX12_init 266 = .ok (.iconst 4, 1) := by decide +kernel
theorem dX12_init_267 : decode cX12_init 267 = .ok (.iastore, 1) := by decide +kernel
theorem dX12_init_268 : decode cX12_init 268 = .ok (.dup, 1) := by decide +kernel
theorem dX12_init_269 : decode cX12_init 269 = .ok (.bipush 6, 2) := by decide +kernel
theorem dX12_init_271 : decode cX12_init 271 = .ok (.bipush 18, 2) := by decide +kernel
theorem dX12_init_273 : decode cX12_init 273 = .ok (.iastore, 1) := by decide +kernel
theorem dX12_init_274 : decode cX12_init 274 = .ok (.dup, 1) := by decide +kernel
theorem dX12_init_275 : decode cX12_init 275 = .ok (.bipush 7, 2) := by decide +kernel
theorem dX12_init_277 : decode cX12_init 277 = .ok (.bipush 15, 2) := by decide +kernel
theorem dX12_init_279 : decode cX12_init 279 = .ok (.iastore, 1) := by decide +kernel
theorem dX12_init_280 : decode cX12_init 280 = .ok (.dup, 1) := by decide +kernel
theorem dX12_init_281 : decode cX12_init 281 = .ok (.bipush 8, 2) := by decide +kernel
theorem dX12_init_283 : decode cX12_init 283 = .ok (.bipush 16, 2) := by decide +kernel
theorem dX12_init_285 : decode cX12_init 285 = .ok (.iastore, 1) := by decide +kernel
theorem dX12_init_286 : decode cX12_init 286 = .ok (.dup, 1) := by decide +kernel
theorem dX12_init_287 : decode cX12_init 287 = .ok (.bipush 9, 2) := by decide +kernel
theorem dX12_init_289 : decode cX12_init 289 = .ok (.iconst 4, 1) := by decide +kernel
theorem dX12_init_290 : decode cX12_init 290 = .ok (.iastore, 1) := by decide +kernel
theorem dX12_init_291 : decode cX12_init 291 = .ok (.dup, 1) := by decide +kernel
theorem dX12_init_292 : decode cX12_init 292 = .ok (.bipush 10, 2) := by decide +kernel
theorem dX12_init_294 : decode cX12_init 294 = .ok (.bipush 14, 2) := by decide +kernel
theorem dX12_init_296 : decode cX12_init 296 = .ok (.iastore, 1) := by decide +kernel
theorem dX12_init_297 : decode cX12_init 297 = .ok (.dup, 1) := by decide +kernel
theorem dX12_init_298 : decode cX12_init 298 = .ok (.bipush 11, 2) := by decide +kernel
theorem dX12_init_300 : decode cX12_init 300 = .ok (.iconst 5, 1) := by decide +kernel
theorem dX12_init_301 : decode cX12_init 301 = .ok (.iastore, 1) := by decide +kernel
theorem dX12_init_302 : decode cX12_init 302 = .ok (.dup, 1) := by decide +kernel
theorem dX12_init_303 : decode cX12_init 303 = .ok (.bipush 12, 2) := by decide +kernel
theorem dX12_init_305 : decode cX12_init 305 = .ok (.iconst 1, 1) := by decide +kernel
theorem dX12_init_306 : decode cX12_init 306 = .ok (.iastore, 1) := by decide +kernel
theorem dX12_init_307 : decode cX12_init 307 = .ok (.dup, 1) := by decide +kernel
theorem dX12_init_308 : decode cX12_init 308 = .ok (.bipush 13, 2) := by decide +kernel
theorem dX12_init_310 : decode cX12_init 310 = .ok (.bipush 18, 2) := by decide +kernel
theorem dX12_init_312 : decode cX12_init 312 = .ok (.iastore, 1) := by decide +kernel
theorem dX12_init_313 : decode cX12_init 313 = .ok (.dup, 1) := by decide +kernel
theorem dX12_init_314 : decode cX12_init 314 = .ok (.bipush 14, 2) := by decide +kernel
theorem dX12_init_316 : decode cX12_init 316 = .ok (.bipush 6, 2) := by decide +kernel
theorem dX12_init_318 : decode cX12_init 318 = .ok (.iastore, 1) := by decide +kernel
theorem dX12_init_319 : decode cX12_init 319 = .ok (.dup, 1) := by decide +kernel
theorem dX12_init_320 : decode cX12_init 320 = .ok (.bipush 15, 2) := by decide +kernel
theorem dX12_init_322 : decode cX12_init 322 = .ok (.bipush 23, 2) := by decide +kernel
theorem dX12_init_324 : decode cX12_init 324 = .ok (.iastore, 1) := by decide +kernel
theorem dX12_init_325 : decode cX12_init 325 = .ok (.dup, 1) := by decide +kernel
theorem dX12_init_326 : decode cX12_init 326 = .ok (.bipush 16, 2) := by decide +kernel
theorem dX12_init_328 : decode cX12_init 328 = .ok (.bipush 9, 2) := by decide +kernel
theorem dX12_init_330 : decode cX12_init 330 = .ok (.iastore, 1) := by decide +kernel
theorem dX12_init_331 : decode cX12_init 331 = .ok (.dup, 1) := by decide +kernel
theorem dX12_init_332 : decode cX12_init 332 = .ok (.bipush 17, 2) := by decide +kernel
theorem dX12_init_334 : decode cX12_init 334 = .ok (.bipush 20, 2) := by decide +kernel
theorem dX12_init_336 : decode cX12_init 336 = .ok (.iastore, 1) := by decide +kernel
theorem dX12_init_337 : decode cX12_init 337 = .ok (.dup, 1) := by decide +kernel
theorem dX12_init_338 : decode cX12_init 338 = .ok (.bipush 18, 2) := by decide +kernel
theorem dX12_init_340 : decode cX12_init 340 = .ok (.bipush 8, 2) := by decide +kernel
theorem dX12_init_342 : decode cX12_init 342 = .ok (.iastore, 1) := by decide +kernel
theorem dX12_init_343 : decode cX12_init 343 = .ok (.dup, 1) := by decide +kernel
theorem dX12_init_344 : decode cX12_init 344 = .ok (.bipush 19, 2) := by decide +kernel
theorem dX12_init_346 : decode cX12_init 346 = .ok (.bipush 9, 2) := by decide +kernel
theorem dX12_init_348 : decode cX12_init 348 = .ok (.iastore, 1) := by decide +kernel
theorem dX12_init_349 : decode cX12_init 349 = .ok (.dup, 1) := by decide +kernel
theorem dX12_init_350 : decode cX12_init 350 = .ok (.bipush 20, 2) := by decide +kernel
theorem dX12_init_352 : decode cX12_init 352 = .ok (.bipush 14, 2) := by decide +kernel
theorem dX12_init_354 : decode cX12_init 354 = .ok (.iastore, 1) := by decide +kernel
theorem dX12_init_355 : decode cX12_init 355 = .ok (.dup, 1) := by decide +kernel
theorem dX12_init_356 : decode cX12_init 356 = .ok (.bipush 21, 2) := by decide +kernel
theorem dX12_init_358 : decode cX12_init 358 = .ok (.bipush 7, 2) := by decide +kernel
theorem dX12_init_360 : decode cX12_init 360 = .ok (.iastore, 1) := by decide +kernel
theorem dX12_init_361 : decode cX12_init 361 = .ok (.dup, 1) := by decide +kernel
theorem dX12_init_362 : decode cX12_init 362 = .ok (.bipush 22, 2) := by decide +kernel
theorem dX12_init_364 : decode cX12_init 364 = .ok (.bipush 13, 2) := by decide +kernel
theorem dX12_init_366 : decode cX12_init 366 = .ok (.iastore, 1) := by decide +kernel
theorem dX12_init_367 : decode cX12_init 367 = .ok (.dup, 1) := by decide +kernel
theorem dX12_init_368 : decode cX12_init 368 = .ok (.bipush 23, 2) := by decide +kernel
theorem dX12_init_370 : decode cX12_init 370 = .ok (.iconst 5, 1) := by decide +kernel
theorem dX12_init_371 : decode cX12_init 371 = .ok (.iastore, 1) := by decide +kernel
theorem dX12_init_372 : decode cX12_init 372 = .ok (.dup, 1) := by decide +kernel
theorem dX12_init_373 : decode cX12_init 373 = .ok (.bipush 24, 2) := by decide +kernel
theorem dX12_init_375 : decode cX12_init 375 = .ok (.iconst 1, 1) := by decide +kernel
theorem dX12_init_376 : decode cX12_init 376 = .ok (.iastore, 1) := by decide +kernel
theorem dX12_init_377 : decode cX12_init 377 = .ok (.dup, 1) := by decide +kernel
theorem dX12_init_378 : decode cX12_init 378 = .ok (.bipush 25, 2) := by decide +kernel
theorem dX12_init_380 : decode cX12_init 380 = .ok (.bipush 19, 2) := by decide +kernel
theorem dX12_init_382 : decode cX12_init 382 = .ok (.iastore, 1) := by decide +kernel
theorem dX12_init_383 : decode cX12_init 383 = .ok (.dup, 1) := by decide +kernel
theorem dX12_init_384 : decode cX12_init 384 = .ok (.bipush 26, 2) := by decide +kernel
theorem dX12_init_386 : decode cX12_init 386 = .ok (.bipush 21, 2) := by decide +kernel
theorem dX12_init_388 : decode cX12_init 388 = .ok (.iastore, 1) := by decide +kernel
theorem dX12_init_389 : decode cX12_init 389 = .ok (.dup, 1) := by decide +kernel
theorem dX12_init_390 : decode cX12_init 390 = .ok (.bipush 27, 2) := by decide +kernel
theorem dX12_init_392 : decode cX12_init 392 = .ok (.bipush 18, 2) := by decide +kernel
theorem dX12_init_394 : decode cX12_init 394 = .ok (.iastore, 1) := by decide +kernel
theorem dX12_init_395 : decode cX12_init 395 = .ok (.dup, 1) := by decide +kernel
theorem dX12_init_396 : decode cX12_init 396 = .ok (.bipush 28, 2) := by decide +kernel
theorem dX12_init_398 : decode cX12_init 398 = .ok (.iconst 5, 1) := by decide +kernel
theorem dX12_init_399 : decode cX12_init 399 = .ok (.iastore, 1) := by decide +kernel
theorem dX12_init_400 : decode cX12_init 400 = .ok (.dup, 1) := by decide +kernel
theorem dX12_init_401 : decode cX12_init 401 = .ok (.bipush 29, 2) := by decide +kernel
theorem dX12_init_403 : decode cX12_init 403 = .ok (.iconst 3, 1) := by decide +kernel
theorem dX12_init_404 : decode cX12_init 404 = .ok (.iastore, 1) := by decide +kernel
theorem dX12_init_405 : decode cX12_init 405 = .ok (.dup, 1) := by decide +kernel
theorem dX12_init_406 : decode cX12_init 406 = .ok (.bipush 30, 2) := by decide +kernel
theorem dX12_init_408 : decode cX12_init 408 = .ok (.iconst 3, 1) := by decide +kernel
theorem dX12_init_409 : decode cX12_init 409 = .ok (.iastore, 1) := by decide +kernel
theorem dX12_init_410 : decode cX12_init 410 = .ok (.dup, 1) := by decide +kernel
theorem dX12_init_411 : decode cX12_init 411 = .ok (.bipush 31, 2) := by decide +kernel
theorem dX12_init_413 : decode cX12_init 413 = .ok (.iconst 1, 1) := by decide +kernel
theorem dX12_init_414 : decode cX12_init 414 = .ok (.iastore, 1) := by decide +kernel
theorem dX12_init_415 : decode cX12_init 415 = .ok (.dup, 1) := by decide +kernel
theorem dX12_init_416 : decode cX12_init 416 = .ok (.bipush 32, 2) := by decide +kernel
theorem dX12_init_418 : decode cX12_init 418 = .ok (.bipush 16, 2) := by decide +kernel
theorem dX12_init_420 : decode cX12_init 420 = .ok (.iastore, 1) := by decide +kernel
theorem dX12_init_421 : decode cX12_init 421 = .ok (.dup, 1) := by decide +kernel
theorem dX12_init_422 : decode cX12_init 422 = .ok (.bipush 33, 2) := by decide +kernel
theorem dX12_init_424 : decode cX12_init 424 = .ok (.iconst 3, 1) := by decide +kernel
theorem dX12_init_425 : decode cX12_init 425 = .ok (.iastore, 1) := by decide +kernel
theorem dX12_init_426 : decode cX12_init 426 = .ok (.dup, 1) := by decide +kernel
theorem dX12_init_427 : decode cX12_init 427 = .ok (.bipush 34, 2) := by decide +kernel
theorem dX12_init_429 : decode cX12_init 429 = .ok (.bipush 6, 2) := by decide +kernel
theorem dX12_init_431 : decode cX12_init 431 = .ok (.iastore, 1) := by decide +kernel
theorem dX12_init_432 : decode cX12_init 432 = .ok (.dup, 1) := by decide +kernel
theorem dX12_init_433 : decode cX12_init 433 = .ok (.bipush 35, 2) := by decide +kernel
theorem dX12_init_435 : decode cX12_init 435 = .ok (.iconst 1, 1) := by decide +kernel
theorem dX12_init_436 : decode cX12_init 436 = .ok (.iastore, 1) := by decide +kernel
theorem dX12_init_437 : decode cX12_init 437 = .ok (.dup, 1) := by decide +kernel
theorem dX12_init_438 : decode cX12_init 438 = .ok (.bipush 36, 2) := by decide +kernel
theorem dX12_init_440 : decode cX12_init 440 = .ok (.bipush 18, 2) := by decide +kernel
theorem dX12_init_442 : decode cX12_init 442 = .ok (.iastore, 1) := by decide +kernel
theorem dX12_init_443 : decode cX12_init 443 = .ok (.dup, 1) := by decide +kernel
theorem dX12_init_444 : decode cX12_init 444 = .ok (.bipush 37, 2) := by decide +kernel
theorem dX12_init_446 : decode cX12_init 446 = .ok (.iconst 4, 1) := by decide +kernel
theorem dX12_init_447 : decode cX12_init 447 = .ok (.iastore, 1) := by decide +kernel
theorem dX12_init_448 : decode cX12_init 448 = .ok (.dup, 1) := by decide +kernel
theorem dX12_init_449 : decode cX12_init 449 = .ok (.bipush 38, 2) := by decide +kernel
theorem dX12_init_451 : decode cX12_init 451 = .ok (.bipush 19, 2) := by decide +kernel
theorem dX12_init_453 : decode cX12_init 453 = .ok (.iastore, 1) := by decide +kernel
theorem dX12_init_454 : decode cX12_init 454 = .ok (.dup, 1) := by decide +kernel
theorem dX12_init_455 : decode cX12_init 455 = .ok (.bipush 39, 2) := by decide +kernel
theorem dX12_init_457 : decode cX12_init 457 = .ok (.bipush 9, 2) := by decide +kernel
theorem dX12_init_459 : decode cX12_init 459 = .ok (.iastore, 1) := by decide +kernel
theorem dX12_init_460 : decode cX12_init 460 = .ok (.dup, 1) := by decide +kernel
theorem dX12_init_461 : decode cX12_init 461 = .ok (.bipush 40, 2) := by decide +kernel
theorem dX12_init_463 : decode cX12_init 463 = .ok (.bipush 26, 2) := by decide +kernel
theorem dX12_init_465 : decode cX12_init 465 = .ok (.iastore, 1) := by decide +kernel
theorem dX12_init_466 : decode cX12_init 466 = .ok (.dup, 1) := by decide +kernel
theorem dX12_init_467 : decode cX12_init 467 = .ok (.bipush 41, 2) := by decide +kernel
theorem dX12_init_469 : decode cX12_init 469 = .ok (.iconst 5, 1) := by decide +kernel
theorem dX12_init_470 : decode cX12_init 470 = .ok (.iastore, 1) := by decide +kernel
theorem dX12_init_471 : decode cX12_init 471 = .ok (.dup, 1) := by decide +kernel
theorem dX12_init_472 : decode cX12_init 472 = .ok (.bipush 42, 2) := by decide +kernel
theorem dX12_init_474 : decode cX12_init 474 = .ok (.iconst 4, 1) := by decide +kernel
theorem dX12_init_475 : decode cX12_init 475 = .ok (.iastore, 1) := by decide +kernel
theorem dX12_init_476 : decode cX12_init 476 = .ok (.dup, 1) := by decide +kernel
theorem dX12_init_477 : decode cX12_init 477 = .ok (.bipush 43, 2) := by decide +kernel
theorem dX12_init_479 : decode cX12_init 479 = .ok (.iconst 5, 1) := by decide +kernel
theorem dX12_init_480 : decode cX12_init 480 = .ok (.iastore, 1) := by decide +kernel
theorem dX12_init_481 : decode cX12_init 481 = .ok (.dup, 1) := by decide +kernel
theorem dX12_init_482 : decode cX12_init 482 = .ok (.bipush 44, 2) := by decide +kernel
theorem dX12_init_484 : decode cX12_init 484 = .ok (.iconst 4, 1) := by decide +kernel
theorem dX12_init_485 : decode cX12_init 485 = .ok (.iastore, 1) := by decide +kernel
theorem dX12_init_486 : decode cX12_init 486 = .ok (.dup, 1) := by decide +kernel
theorem dX12_init_487 : decode cX12_init 487 = .ok (.bipush 45, 2) := by decide +kernel
theorem dX12_init_489 : decode cX12_init 489 = .ok (.bipush 9, 2) := by decide +kernel
theorem dX12_init_491 : decode cX12_init 491 = .ok (.iastore, 1) := by decide +kernel
theorem dX12_init_492 : decode cX12_init 492 = .ok (.dup, 1) := by decide +kernel
theorem dX12_init_493 : decode cX12_init 493 = .ok (.bipush 46, 2) := by decide +kernel
theorem dX12_init_495 : decode cX12_init 495 = .ok (.bipush 20, 2) := by decide +kernel
theorem dX12_init_497 : decode cX12_init 497 = .ok (.iastore, 1) := by decide +kernel
theorem dX12_init_498 : decode cX12_init 498 = .ok (.dup, 1) := by decide +kernel
theorem dX12_init_499 : decode cX12_init 499 = .ok (.bipush 47, 2) := by decide +kernel
theorem dX12_init_501 : decode cX12_init 501 = .ok (.iconst 5, 1) := by decide +kernel
theorem dX12_init_502 : decode cX12_init 502 = .ok (.iastore, 1) := by decide +kernel
theorem dX12_init_503 : decode cX12_init 503 = .ok (.dup, 1) := by decide +kernel
theorem dX12_init_504 : decode cX12_init 504 = .ok (.bipush 48, 2) := by decide +kernel
theorem dX12_init_506 : decode cX12_init 506 = .ok (.bipush 16, 2) := by decide +kernel
theorem dX12_init_508 : decode cX12_init 508 = .ok (.iastore, 1) := by decide +kernel
theorem dX12_init_509 : decode cX12_init 509 = .ok (.dup, 1) := by decide +kernel
theorem dX12_init_510 : decode cX12_init 510 = .ok (.bipush 49, 2) := by decide +kernel
theorem dX12_init_512 : decode cX12_init 512 = .ok (.bipush 12, 2) := by decide +kernel
theorem dX12_init_514 : decode cX12_init 514 = .ok (.iastore, 1) := by decide +kernel
theorem dX12_init_515 : decode cX12_init 515 = .ok (.dup, 1) := by decide +kernel
theorem dX12_init_516 : decode cX12_init 516 = .ok (.bipush 50, 2) := by decide +kernel
theorem dX12_init_518 : decode cX12_init 518 = .ok (.iconst 1, 1) := by decide +kernel
theorem dX12_init_519 : decode cX12_init 519 = .ok (.iastore, 1) := by decide +kernel
theorem dX12_init_520 : decode cX12_init 520 = .ok (.dup, 1) := by decide +kernel
theorem dX12_init_521 : decode cX12_init 521 = .ok (.bipush 51, 2) := by decide +kernel
theorem dX12_init_523 : decode cX12_init 523 = .ok (.iconst 3, 1) := by decide +kernel
theorem dX12_init_524 : decode cX12_init 524 = .ok (.iastore, 1) := by decide +kernel
theorem dX12_init_525 : decode cX12_init 525 = .ok (.dup, 1) := by decide +kernel
theorem dX12_init_526 : decode cX12_init 526 = .ok (.bipush 52, 2) := by decide +kernel
theorem dX12_init_528 : decode cX12_init 528 = .ok (.iconst 5, 1) := by decide +kernel
theorem dX12_init_529 : decode cX12_init 529 = .ok (.iastore, 1) := by decide +kernel
theorem dX12_init_530 : decode cX12_init 530 = .ok (.dup, 1) := by decide +kernel
theorem dX12_init_531 : decode cX12_init 531 = .ok (.bipush 53, 2) := by decide +kernel
theorem dX12_init_533 : decode cX12_init 533 = .ok (.iconst 3, 1) := by decide +kernel
theorem dX12_init_534 : decode cX12_init 534 = .ok (.iastore, 1) := by decide +kernel
theorem dX12_init_535 : decode cX12_init 535 = .ok (.dup, 1) := by decide +kernel
theorem dX12_init_536 : decode cX12_init 536 = .ok (.bipush 54, 2) := by decide +kernel
theorem dX12_init_538 : decode cX12_init 538 = .ok (.bipush 19, 2) := by decide +kernel
theorem dX12_init_540 : decode cX12_init 540 = .ok (.iastore, 1) := by decide +kernel
theorem dX12_init_541 : decode cX12_init 541 = .ok (.dup, 1) := by decide +kernel
theorem dX12_init_542 : decode cX12_init 542 = .ok (.bipush 55, 2) := by decide +kernel
theorem dX12_init_544 : decode cX12_init 544 = .ok (.bipush 21, 2) := by decide +kernel
theorem dX12_init_546 : decode cX12_init 546 = .ok (.iastore, 1) := by decide +kernel
theorem dX12_init_547 : decode cX12_init 547 = .ok (.dup, 1) := by decide +kernel
theorem dX12_init_548 : decode cX12_init 548 = .ok (.bipush 56, 2) := by decide +kernel
theorem dX12_init_550 : decode cX12_init 550 = .ok (.bipush 13, 2) := by decide +kernel
theorem dX12_init_552 : decode cX12_init 552 = .ok (.iastore, 1) := by decide +kernel
theorem dX12_init_553 : decode cX12_init 553 = .ok (.dup, 1) := by decide +kernel
theorem dX12_init_554 : decode cX12_init 554 = .ok (.bipush 57, 2) := by decide +kernel
theorem dX12_init_556 : decode cX12_init 556 = .ok (.iconst 4, 1) := by decide +kernel
theorem dX12_init_557 : decode cX12_init 557 = .ok (.iastore, 1) := by decide +kernel
theorem dX12_init_558 : decode cX12_init 558 = .ok (.dup, 1) := by decide +kernel
theorem dX12_init_559 : decode cX12_init 559 = .ok (.bipush 58, 2) := by decide +kernel
theorem dX12_init_561 : decode cX12_init 561 = .ok (.bipush 8, 2) := by decide +kernel
theorem dX12_init_563 : decode cX12_init 563 = .ok (.iastore, 1) := by decide +kernel
theorem dX12_init_564 : decode cX12_init 564 = .ok (.dup, 1) := by decide +kernel
theorem dX12_init_565 : decode cX12_init 565 = .ok (.bipush 59, 2) := by decide +kernel
theorem dX12_init_567 : decode cX12_init 567 = .ok (.iconst 5, 1) := by decide +kernel
theorem dX12_init_568 : decode cX12_init 568 = .ok (.iastore, 1) := by decide +kernel
theorem dX12_init_569 : decode cX12_init 569 = .ok (.dup, 1) := by decide +kernel
theorem dX12_init_570 : decode cX12_init 570 = .ok (.bipush 60, 2) := by decide +kernel
theorem dX12_init_572 : decode cX12_init 572 = .ok (.iconst 1, 1) := by decide +kernel
theorem dX12_init_573 : decode cX12_init 573 = .ok (.iastore, 1) := by decide +kernel
theorem dX12_init_574 : decode cX12_init 574 = .ok (.dup, 1) := by decide +kernel
theorem dX12_init_575 : decode cX12_init 575 = .ok (.bipush 61, 2) := by decide +kernel
theorem dX12_init_577 : decode cX12_init 577 = .ok (.iconst 4, 1) := by decide +kernel
theorem dX12_init_578 : decode cX12_init 578 = .ok (.iastore, 1) := by decide +kernel
theorem dX12_init_579 : decode cX12_init 579 = .ok (.putfield 97, 3) := by decide +kernel
theorem dX12_init_582 : decode cX12_init 582 = .ok (.aload_n 0, 1) := by decide +kernel
theorem dX12_init_583 : decode cX12_init 583 = .ok (.sipush 300, 3) := by decide +kernel
theorem dX12_init_586 : decode cX12_init 586 = .ok (.newarray .int, 2) := by decide +kernel
theorem dX12_init_588 : decode cX12_init 588 = .ok (.putfield 100, 3) := by decide +kernel
theorem dX12_init_591 : decode cX12_init 591 = .ok (.aload_n 0, 1) := by decide +kernel
theorem dX12_init_592 : decode cX12_init 592 = .ok (.sipush 400, 3) := by decide +kernel
theorem dX12_init_595 : decode cX12_init 595 = .ok (.newarray .int, 2) := by decide +kernel
theorem dX12_init_597 : decode cX12_init 597 = .ok (.putfield 103, 3) := by decide +kernel
theorem dX12_init_600 : decode cX12_init 600 = .ok (.aload_n 0, 1) := by decide +kernel
theorem dX12_init_601 : decode cX12_init 601 = .ok (.getfield 8, 3) := by decide +kernel
theorem dX12_init_604 : decode cX12_init 604 = .ok (.iconst 4, 1) := by decide +kernel
theorem dX12_init_605 : decode cX12_init 605 = .ok (.iconst 4, 1) := by decide +kernel
theorem dX12_init_606 : decode cX12_init 606 = .ok (.iastore, 1) := by decide +kernel
theorem dX12_init_607 : decode cX12_init 607 = .ok (.aload_n 0, 1) := by decide +kernel
theorem dX12_init_608 : decode cX12_init 608 = .ok (.invokevirtual 106, 3) := by decide +kernel
theorem dX12_init_611 : decode cX12_init 611 = .ok (.aload_n 0, 1) := by decide +kernel
theorem dX12_init_612 : decode cX12_init 612 = .ok (.getfield 8, 3) := by decide +kernel
theorem dX12_init_615 : decode cX12_init 615 = .ok (.aload_n 0, 1) := by decide +kernel
theorem dX12_init_616 : decode cX12_init 616 = .ok (.getfield 14, 3) := by decide +kernel
theorem dX12_init_619 : decode cX12_init 619 = .ok (.invokestatic 109, 3) := by decide +kernel
theorem dX12_init_622 : decode cX12_init 622 = .ok (.return_, 1) := by decide +kernel
theorem dX12_copy_0 : decode cX12_copy 0 = .ok (.iconst 0, 1) := by decide +kernel
theorem dX12_copy_1 : decode cX12_copy 1 = .ok (.istore_n 2, 1) := by decide +kernel
theorem dX12_copy_2 : decode cX12_copy 2 = .ok (.iload_n 2, 1) := by decide +kernel
theorem dX12_copy_3 : decode cX12_copy 3 = .ok (.ldc 7, 2) := by decide +kernel
theorem dX12_copy_5 : decode cX12_copy 5 = .ok (.if_icmp .ge 15, 3) := by decide +kernel
theorem dX12_copy_8 : decode cX12_copy 8 = .ok (.aload_n 1, 1) := by decide +kernel
theorem dX12_copy_9 : decode cX12_copy 9 = .ok (.iload_n 2, 1) := by decide +kernel
theorem dX12_copy_10 : decode cX12_copy 10 = .ok (.aload_n 0, 1) := by decide +kernel
theorem dX12_copy_11 : decode cX12_copy 11 = .ok (.iload_n 2, 1) := by decide +kernel
theorem dX12_copy_12 : decode cX12_copy 12 = .ok (.iaload, 1) := by decide +kernel
theorem dX12_copy_13 : decode cX12_copy 13 = .ok (.iastore, 1) := by decide +kernel
theorem dX12_copy_14 : decode cX12_copy 14 = .ok (.iinc 2 1, 3) := by decide +kernel
theorem dX12_copy_17 : decode cX12_copy 17 = .ok (.goto (-15), 3) := by decide +kernel
theorem dX12_copy_20 : decode cX12_copy 20 = .ok (.return_, 1) := by decide +kernel
theorem dX12_isIn_0 : decode cX12_isIn 0 = .ok (.iload_n 0, 1) := by decide +kernel
theorem dX12_isIn_1 : decode cX12_isIn 1 = .ok (.iload_n 1, 1) := by decide +kernel
theorem dX12_isIn_2 : decode cX12_isIn 2 = .ok (.if_icmp .lt 12, 3) := by decide +kernel
theorem dX12_isIn_5 : decode cX12_isIn 5 = .ok (.iload_n 0, 1) := by decide +kernel
theorem dX12_isIn_6 : decode cX12_isIn 6 = .ok (.iload_n 2, 1) := by decide +kernel
theorem dX12_isIn_7 : decode cX12_isIn 7 = .ok (.if_icmp .gt 7, 3) := by decide +kernel
theorem dX12_isIn_10 : decode cX12_isIn 10 = .ok (.iconst 1, 1) := by decide +kernel
theorem dX12_isIn_11 : decode cX12_isIn 11 = .ok (.goto 4, 3) := by decide +kernel
theorem dX12_isIn_14 : decode cX12_isIn 14 = .ok (.iconst 0, 1) := by decide +kernel
theorem dX12_isIn_15 : decode cX12_isIn 15 = .ok (.ireturn, 1) := by decide +kernel
theorem dX12_lesser_0 : decode cX12_lesser 0 = .ok (.iload_n 0, 1) := by decide +kernel
theorem dX12_lesser_1 : decode cX12_lesser 1 = .ok (.iload_n 1, 1) := by decide +kernel
theorem dX12_lesser_2 : decode cX12_lesser 2 = .ok (.if_icmp .ge 7, 3) := by decide +kernel
theorem dX12_lesser_5 : decode cX12_lesser 5 = .ok (.iload_n 0, 1) := by decide +kernel
theorem dX12_lesser_6 : decode cX12_lesser 6 = .ok (.goto 4, 3) := by decide +kernel
theorem dX12_lesser_9 : decode cX12_lesser 9 = .ok (.iload_n 1, 1) := by decide +kernel
theorem dX12_lesser_10 : decode cX12_lesser 10 = .ok (.ireturn, 1) := by decide +kernel
theorem dX12_size_0 : decode cX12_size 0 = .ok (.iload_n 0, 1) := by decide +kernel
theorem dX12_size_1 : decode cX12_size 1 = .ok (.ifCond .ge 8, 3) := by decide +kernel
theorem dX12_size_4 : decode cX12_size 4 = .ok (.iload_n 0, 1) := by decide +kernel
theorem dX12_size_5 : decode cX12_size 5 = .ok (.ineg, 1) := by decide +kernel
theorem dX12_size_6 : decode cX12_size 6 = .ok (.goto 4, 3) := by decide +kernel
theorem dX12_size_9 : decode cX12_size 9 = .ok (.iload_n 0, 1) := by decide +kernel
theorem dX12_size_10 : decode cX12_size 10 = .ok (.ireturn, 1) := by decide +kernel
theorem dX12_lettersOf_0 : decode cX12_lettersOf 0 = .ok (.iload_n 0, 1) := by decide +kernel
theorem dX12_lettersOf_1 : decode cX12_lettersOf 1 = .ok (.iconst 1, 1) := by decide +kernel
theorem dX12_lettersOf_2 : decode cX12_lettersOf 2 = .ok (.ldc 113, 2) := by decide +kernel
theorem dX12_lettersOf_4 : decode cX12_lettersOf 4 = .ok (.invokestatic 114, 3) := by decide +kernel
theorem dX12_lettersOf_7 : decode cX12_lettersOf 7 = .ok (.ifCond .ne 5, 3) := by decide +kernel
theorem dX12_lettersOf_10 : decode cX12_lettersOf 10 = .ok (.iconst (-1), 1) := by decide +kernel
theorem dX12_lettersOf_11 : decode cX12_lettersOf 11 = .ok (.ireturn, 1) := by decide +kernel
theorem dX12_lettersOf_12 : decode cX12_lettersOf 12 = .ok (.iconst 0, 1) := by decide +kernel
theorem dX12_lettersOf_13 : decode cX12_lettersOf 13 = .ok (.istore_n 1, 1) := by decide +kernel
theorem dX12_lettersOf_14 : decode cX12_lettersOf 14 = .ok (.iload_n 0, 1) := by decide +kernel
theorem dX12_lettersOf_15 : decode cX12_lettersOf 15 = .ok (.istore_n 2, 1) := by decide +kernel
theorem dX12_lettersOf_16 : decode cX12_lettersOf 16 = .ok (.iload_n 2, 1) := by decide +kernel
theorem dX12_lettersOf_17 : decode cX12_lettersOf 17 = .ok (.ifCond .le 23, 3) := by decide +kernel
theorem dX12_lettersOf_20 : decode cX12_lettersOf 20 = .ok (.iload_n 2, 1) := by decide +kernel
theorem dX12_lettersOf_21 : decode cX12_lettersOf 21 = .ok (.bipush 9, 2) := by decide +kernel
theorem dX12_lettersOf_23 : decode cX12_lettersOf 23 = .ok (.irem, 1) := by decide +kernel
theorem dX12_lettersOf_24 : decode cX12_lettersOf 24 = .ok (.ifCond .ne 5, 3) := by decide +kernel
theorem dX12_lettersOf_27 : decode cX12_lettersOf 27 = .ok (.iconst (-1), 1) := by decide +kernel
theorem dX12_lettersOf_28 : decode cX12_lettersOf 28 = .ok (.ireturn, 1) := by decide +kernel
theorem dX12_lettersOf_29 : decode cX12_lettersOf 29 = .ok (.iinc 1 1, 3) := by decide +kernel
theorem dX12_lettersOf_32 : decode cX12_lettersOf 32 = .ok (.iload_n 2, 1) := by decide +kernel
theorem dX12_lettersOf_33 : decode cX12_lettersOf 33 = .ok (.bipush 9, 2) := by decide +kernel
theorem dX12_lettersOf_35 : decode cX12_lettersOf 35 = .ok (.idiv, 1) := by decide +kernel
theorem dX12_lettersOf_36 : decode cX12_lettersOf 36 = .ok (.istore_n 2, 1) := by decide +kernel
theorem dX12_lettersOf_37 : decode cX12_lettersOf 37 = .ok (.goto (-21), 3) := by decide +kernel
theorem dX12_lettersOf_40 : decode cX12_lettersOf 40 = .ok (.iload_n 1, 1) := by decide +kernel
theorem dX12_lettersOf_41 : decode cX12_lettersOf 41 = .ok (.ireturn, 1) := by decide +kernel
theorem dX12_letterAt_0 : decode cX12_letterAt 0 = .ok (.iload_n 0, 1) := by decide +kernel
theorem dX12_letterAt_1 : decode cX12_letterAt 1 = .ok (.invokestatic 118, 3) := by decide +kernel
theorem dX12_letterAt_4 : decode cX12_letterAt 4 = .ok (.istore_n 2, 1) := by decide +kernel
theorem dX12_letterAt_5 : decode cX12_letterAt 5 = .ok (.iload_n 1, 1) := by decide +kernel
theorem dX12_letterAt_6 : decode cX12_letterAt 6 = .ok (.iload_n 2, 1) := by decide +kernel
theorem dX12_letterAt_7 : decode cX12_letterAt 7 = .ok (.if_icmp .lt 5, 3) := by decide +kernel
theorem dX12_letterAt_10 : decode cX12_letterAt 10 = .ok (.iconst 0, 1) := by decide +kernel
theorem dX12_letterAt_11 : decode cX12_letterAt 11 = .ok (.ireturn, 1) := by decide +kernel
theorem dX12_letterAt_12 : decode cX12_letterAt 12 = .ok (.iload_n 0, 1) := by decide +kernel
theorem dX12_letterAt_13 : decode cX12_letterAt 13 = .ok (.istore_n 3, 1) := by decide +kernel
theorem dX12_letterAt_14 : decode cX12_letterAt 14 = .ok (.iload_n 2, 1) := by decide +kernel
theorem dX12_letterAt_15 : decode cX12_letterAt 15 = .ok (.iconst 1, 1) := by decide +kernel
theorem dX12_letterAt_16 : decode cX12_letterAt 16 = .ok (.isub, 1) := by decide +kernel
theorem dX12_letterAt_17 : decode cX12_letterAt 17 = .ok (.istore 4, 2) := by decide +kernel
theorem dX12_letterAt_19 : decode cX12_letterAt 19 = .ok (.iload 4, 2) := by decide +kernel
theorem dX12_letterAt_21 : decode cX12_letterAt 21 = .ok (.iload_n 1, 1) := by decide +kernel
theorem dX12_letterAt_22 : decode cX12_letterAt 22 = .ok (.if_icmp .le 14, 3) := by decide +kernel
theorem dX12_letterAt_25 : decode cX12_letterAt 25 = .ok (.iload_n 3, 1) := by decide +kernel
theorem dX12_letterAt_26 : decode cX12_letterAt 26 = .ok (.bipush 9, 2) := by decide +kernel
theorem dX12_letterAt_28 : decode cX12_letterAt 28 = .ok (.idiv, 1) := by decide +kernel
theorem dX12_letterAt_29 : decode cX12_letterAt 29 = .ok (.istore_n 3, 1) := by decide +kernel
theorem dX12_letterAt_30 : decode cX12_letterAt 30 = .ok (.iinc 4 (-1), 3) := by decide +kernel
theorem dX12_letterAt_33 : decode cX12_letterAt 33 = .ok (.goto (-14), 3) := by decide +kernel
theorem dX12_letterAt_36 : decode cX12_letterAt 36 = .ok (.iload_n 3, 1) := by decide +kernel
theorem dX12_letterAt_37 : decode cX12_letterAt 37 = .ok (.bipush 9, 2) := by decide +kernel
theorem dX12_letterAt_39 : decode cX12_letterAt 39 = .ok (.irem, 1) := by decide +kernel
theorem dX12_letterAt_40 : decode cX12_letterAt 40 = .ok (.ireturn, 1) := by decide +kernel
theorem dX12_editsOf_0 : decode cX12_editsOf 0 = .ok (.iload_n 1, 1) := by decide +kernel
theorem dX12_editsOf_1 : decode cX12_editsOf 1 = .ok (.invokestatic 118, 3) := by decide +kernel
theorem dX12_editsOf_4 : decode cX12_editsOf 4 = .ok (.istore_n 3, 1) := by decide +kernel
theorem dX12_editsOf_5 : decode cX12_editsOf 5 = .ok (.iload_n 2, 1) := by decide +kernel
theorem dX12_editsOf_6 : decode cX12_editsOf 6 = .ok (.invokestatic 118, 3) := by decide +kernel
theorem dX12_editsOf_9 : decode cX12_editsOf 9 = .ok (.istore 4, 2) := by decide +kernel
theorem dX12_editsOf_11 : decode cX12_editsOf 11 = .ok (.iconst 0, 1) := by decide +kernel
theorem dX12_editsOf_12 : decode cX12_editsOf 12 = .ok (.istore 5, 2) := by decide +kernel
theorem dX12_editsOf_14 : decode cX12_editsOf 14 = .ok (.iload 5, 2) := by decide +kernel
theorem dX12_editsOf_16 : decode cX12_editsOf 16 = .ok (.iload 4, 2) := by decide +kernel
theorem dX12_editsOf_18 : decode cX12_editsOf 18 = .ok (.if_icmp .gt 18, 3) := by decide +kernel
theorem dX12_editsOf_21 : decode cX12_editsOf 21 = .ok (.aload_n 0, 1) := by decide +kernel
theorem dX12_editsOf_22 : decode cX12_editsOf 22 = .ok (.getfield 17, 3) := by decide +kernel
theorem dX12_editsOf_25 : decode cX12_editsOf 25 = .ok (.iload 5, 2) := by decide +kernel
theorem dX12_editsOf_27 : decode cX12_editsOf 27 = .ok (.iload 5, 2) := by decide +kernel
theorem dX12_editsOf_29 : decode cX12_editsOf 29 = .ok (.iastore, 1) := by decide +kernel
theorem dX12_editsOf_30 : decode cX12_editsOf 30 = .ok (.iinc 5 1, 3) := by decide +kernel
theorem dX12_editsOf_33 : decode cX12_editsOf 33 = .ok (.goto (-19), 3) := by decide +kernel
theorem dX12_editsOf_36 : decode cX12_editsOf 36 = .ok (.iconst 1, 1) := by decide +kernel
theorem dX12_editsOf_37 : decode cX12_editsOf 37 = .ok (.istore 5, 2) := by decide +kernel
theorem dX12_editsOf_39 : decode cX12_editsOf 39 = .ok (.iload 5, 2) := by decide +kernel
theorem dX12_editsOf_41 : decode cX12_editsOf 41 = .ok (.iload_n 3, 1) := by decide +kernel
theorem dX12_editsOf_42 : decode cX12_editsOf 42 = .ok (.if_icmp .gt 132, 3) := by decide +kernel
theorem dX12_editsOf_45 : decode cX12_editsOf 45 = .ok (.iconst 0, 1) := by decide +kernel
theorem dX12_editsOf_46 : decode cX12_editsOf 46 = .ok (.istore 6, 2) := by decide +kernel
theorem dX12_editsOf_48 : decode cX12_editsOf 48 = .ok (.iload 6, 2) := by decide +kernel
theorem dX12_editsOf_50 : decode cX12_editsOf 50 = .ok (.iload 4, 2) := by decide +kernel
theorem dX12_editsOf_52 : decode cX12_editsOf 52 = .ok (.if_icmp .gt 23, 3) := by decide +kernel
theorem dX12_editsOf_55 : decode cX12_editsOf 55 = .ok (.aload_n 0, 1) := by decide +kernel
theorem dX12_editsOf_56 : decode cX12_editsOf 56 = .ok (.getfield 20, 3) := by decide +kernel
theorem dX12_editsOf_59 : decode cX12_editsOf 59 = .ok (.iload 6, 2) := by decide +kernel
theorem dX12_editsOf_61 : decode cX12_editsOf 61 = .ok (.aload_n 0, 1) := by decide +kernel
theorem dX12_editsOf_62 : decode cX12_editsOf 62 = .ok (.getfield 17, 3) := by decide +kernel
theorem dX12_editsOf_65 : decode cX12_editsOf 65 = .ok (.iload 6, 2) := by decide +kernel
theorem dX12_editsOf_67 : decode cX12_editsOf 67 = .ok (.iaload, 1) := by decide +kernel
theorem dX12_editsOf_68 : decode cX12_editsOf 68 = .ok (.iastore, 1) := by decide +kernel
theorem dX12_editsOf_69 : decode cX12_editsOf 69 = .ok (.iinc 6 1, 3) := by decide +kernel
theorem dX12_editsOf_72 : decode cX12_editsOf 72 = .ok (.goto (-24), 3) := by decide +kernel
theorem dX12_editsOf_75 : decode cX12_editsOf 75 = .ok (.aload_n 0, 1) := by decide +kernel
theorem dX12_editsOf_76 : decode cX12_editsOf 76 = .ok (.getfield 17, 3) := by decide +kernel
theorem dX12_editsOf_79 : decode cX12_editsOf 79 = .ok (.iconst 0, 1) := by decide +kernel
theorem dX12_editsOf_80 : decode cX12_editsOf 80 = .ok (.iload 5, 2) := by decide +kernel
theorem dX12_editsOf_82 : decode cX12_editsOf 82 = .ok (.iastore, 1) := by decide +kernel
theorem dX12_editsOf_83 : decode cX12_editsOf 83 = .ok (.iconst 1, 1) := by decide +kernel
theorem dX12_editsOf_84 : decode cX12_editsOf 84 = .ok (.istore 6, 2) := by decide +kernel
theorem dX12_editsOf_86 : decode cX12_editsOf 86 = .ok (.iload 6, 2) := by decide +kernel
theorem dX12_editsOf_88 : decode cX12_editsOf 88 = .ok (.iload 4, 2) := by decide +kernel
theorem dX12_editsOf_90 : decode cX12_editsOf 90 = .ok (.if_icmp .gt 78, 3) := by decide +kernel
theorem dX12_editsOf_93 : decode cX12_editsOf 93 = .ok (.aload_n 0, 1) := by decide +kernel
theorem dX12_editsOf_94 : decode cX12_editsOf 94 = .ok (.getfield 20, 3) := by decide +kernel
theorem dX12_editsOf_97 : decode cX12_editsOf 97 = .ok (.iload 6, 2) := by decide +kernel
theorem dX12_editsOf_99 : decode cX12_editsOf 99 = .ok (.iconst 1, 1) := by decide +kernel
theorem dX12_editsOf_100 : decode cX12_editsOf 100 = .ok (.isub, 1) := by decide +kernel
theorem dX12_editsOf_101 : decode cX12_editsOf 101 = .ok (.iaload, 1) := by decide +kernel
theorem dX12_editsOf_102 : decode cX12_editsOf 102 = .ok (.iload_n 1, 1) := by decide +kernel
theorem dX12_editsOf_103 : decode cX12_editsOf 103 = .ok (.iload 5, 2) := by decide +kernel
theorem dX12_editsOf_105 : decode cX12_editsOf 105 = .ok (.iconst 1, 1) := by decide +kernel
theorem dX12_editsOf_106 : decode cX12_editsOf 106 = .ok (.isub, 1) := by decide +kernel
theorem dX12_editsOf_107 : decode cX12_editsOf 107 = .ok (.invokestatic 122, 3) := by decide +kernel
theorem dX12_editsOf_110 : decode cX12_editsOf 110 = .ok (.iload_n 2, 1) := by decide +kernel
theorem dX12_editsOf_111 : decode cX12_editsOf 111 = .ok (.iload 6, 2) := by decide +kernel
theorem dX12_editsOf_113 : decode cX12_editsOf 113 = .ok (.iconst 1, 1) := by decide +kernel
theorem dX12_editsOf_114 : decode cX12_editsOf 114 = .ok (.isub, 1) := by decide +kernel
theorem dX12_editsOf_115 : decode cX12_editsOf 115 = .ok (.invokestatic 122, 3) := by decide +kernel
theorem dX12_editsOf_118 : decode cX12_editsOf 118 = .ok (.if_icmp .ne 7, 3) := by decide +kernel
theorem dX12_editsOf_121 : decode cX12_editsOf 121 = .ok (.iconst 0, 1) := by decide +kernel
theorem dX12_editsOf_122 : decode cX12_editsOf 122 = .ok (.goto 4, 3) := by decide +kernel
theorem dX12_editsOf_125 : decode cX12_editsOf 125 = .ok (.iconst 1, 1) := by decide +kernel
theorem dX12_editsOf_126 : decode cX12_editsOf 126 = .ok (.iadd, 1) := by decide +kernel
theorem dX12_editsOf_127 : decode cX12_editsOf 127 = .ok (.istore 7, 2) := by decide +kernel
theorem dX12_editsOf_129 : decode cX12_editsOf 129 = .ok (.aload_n 0, 1) := by decide +kernel
theorem dX12_editsOf_130 : decode cX12_editsOf 130 = .ok (.getfield 17, 3) := by decide +kernel
theorem dX12_editsOf_133 : decode cX12_editsOf 133 = .ok (.iload 6, 2) := by decide +kernel
theorem dX12_editsOf_135 : decode cX12_editsOf 135 = .ok (.iload 7, 2) := by decide +kernel
theorem dX12_editsOf_137 : decode cX12_editsOf 137 = .ok (.aload_n 0, 1) := by decide +kernel
theorem dX12_editsOf_138 : decode cX12_editsOf 138 = .ok (.getfield 20, 3) := by decide +kernel
theorem dX12_editsOf_141 : decode cX12_editsOf 141 = .ok (.iload 6, 2) := by decide +kernel
theorem dX12_editsOf_143 : decode cX12_editsOf 143 = .ok (.iaload, 1) := by decide +kernel
theorem dX12_editsOf_144 : decode cX12_editsOf 144 = .ok (.aload_n 0, 1) := by decide +kernel
theorem dX12_editsOf_145 : decode cX12_editsOf 145 = .ok (.getfield 17, 3) := by decide +kernel
theorem dX12_editsOf_148 : decode cX12_editsOf 148 = .ok (.iload 6, 2) := by decide +kernel
theorem dX12_editsOf_150 : decode cX12_editsOf 150 = .ok (.iconst 1, 1) := by decide +kernel
theorem dX12_editsOf_151 : decode cX12_editsOf 151 = .ok (.isub, 1) := by decide +kernel
theorem dX12_editsOf_152 : decode cX12_editsOf 152 = .ok (.iaload, 1) := by decide +kernel
theorem dX12_editsOf_153 : decode cX12_editsOf 153 = .ok (.invokestatic 126, 3) := by decide +kernel
theorem dX12_editsOf_156 : decode cX12_editsOf 156 = .ok (.iconst 1, 1) := by decide +kernel
theorem dX12_editsOf_157 : decode cX12_editsOf 157 = .ok (.iadd, 1) := by decide +kernel
theorem dX12_editsOf_158 : decode cX12_editsOf 158 = .ok (.invokestatic 126, 3) := by decide +kernel
theorem dX12_editsOf_161 : decode cX12_editsOf 161 = .ok (.iastore, 1) := by decide +kernel
theorem dX12_editsOf_162 : decode cX12_editsOf 162 = .ok (.iinc 6 1, 3) := by decide +kernel
theorem dX12_editsOf_165 : decode cX12_editsOf 165 = .ok (.goto (-79), 3) := by decide +kernel
theorem dX12_editsOf_168 : decode cX12_editsOf 168 = .ok (.iinc 5 1, 3) := by decide +kernel
theorem dX12_editsOf_171 : decode cX12_editsOf 171 = .ok (.goto (-132), 3) := by decide +kernel
theorem dX12_editsOf_174 : decode cX12_editsOf 174 = .ok (.aload_n 0, 1) := by decide +kernel
theorem dX12_editsOf_175 : decode cX12_editsOf 175 = .ok (.getfield 17, 3) := by decide +kernel
theorem dX12_editsOf_178 : decode cX12_editsOf 178 = .ok (.iload 4, 2) := by decide +kernel
theorem dX12_editsOf_180 : decode cX12_editsOf 180 = .ok (.iaload, 1) := by decide +kernel
theorem dX12_editsOf_181 : decode cX12_editsOf 181 = .ok (.ireturn, 1) := by decide +kernel
theorem dX12_headOf_0 : decode cX12_headOf 0 = .ok (.iload_n 1, 1) := by decide +kernel
theorem dX12_headOf_1 : decode cX12_headOf 1 = .ok (.iload_n 2, 1) := by decide +kernel
theorem dX12_headOf_2 : decode cX12_headOf 2 = .ok (.if_icmp .ne 5, 3) := by decide +kernel
theorem dX12_headOf_5 : decode cX12_headOf 5 = .ok (.iconst 0, 1) := by decide +kernel
theorem dX12_headOf_6 : decode cX12_headOf 6 = .ok (.ireturn, 1) := by decide +kernel
theorem dX12_headOf_7 : decode cX12_headOf 7 = .ok (.iconst 0, 1) := by decide +kernel
theorem dX12_headOf_8 : decode cX12_headOf 8 = .ok (.istore_n 3, 1) := by decide +kernel
theorem dX12_headOf_9 : decode cX12_headOf 9 = .ok (.iload_n 1, 1) := by decide +kernel
theorem dX12_headOf_10 : decode cX12_headOf 10 = .ok (.iload_n 3, 1) := by decide +kernel
theorem dX12_headOf_11 : decode cX12_headOf 11 = .ok (.invokestatic 122, 3) := by decide +kernel
theorem dX12_headOf_14 : decode cX12_headOf 14 = .ok (.ifCond .eq 22, 3) := by decide +kernel
theorem dX12_headOf_17 : decode cX12_headOf 17 = .ok (.iload_n 1, 1) := by decide +kernel
theorem dX12_headOf_18 : decode cX12_headOf 18 = .ok (.iload_n 3, 1) := by decide +kernel
theorem dX12_headOf_19 : decode cX12_headOf 19 = .ok (.invokestatic 122, 3) := by decide +kernel
theorem dX12_headOf_22 : decode cX12_headOf 22 = .ok (.iload_n 2, 1) := by decide +kernel
theorem dX12_headOf_23 : decode cX12_headOf 23 = .ok (.iload_n 3, 1) := by decide +kernel
theorem dX12_headOf_24 : decode cX12_headOf 24 = .ok (.invokestatic 122, 3) := by decide +kernel
theorem dX12_headOf_27 : decode cX12_headOf 27 = .ok (.if_icmp .ne 9, 3) := by decide +kernel
theorem dX12_headOf_30 : decode cX12_headOf 30 = .ok (.iinc 3 1, 3) := by decide +kernel
theorem dX12_headOf_33 : decode cX12_headOf 33 = .ok (.goto (-24), 3) := by decide +kernel
theorem dX12_headOf_36 : decode cX12_headOf 36 = .ok (.bipush 7, 2) := by decide +kernel
theorem dX12_headOf_38 : decode cX12_headOf 38 = .ok (.iload_n 3, 1) := by decide +kernel
theorem dX12_headOf_39 : decode cX12_headOf 39 = .ok (.isub, 1) := by decide +kernel
theorem dX12_headOf_40 : decode cX12_headOf 40 = .ok (.ireturn, 1) := by decide +kernel
theorem dX12_apartOf_0 : decode cX12_apartOf 0 = .ok (.aload_n 0, 1) := by decide +kernel
theorem dX12_apartOf_1 : decode cX12_apartOf 1 = .ok (.getfield 8, 3) := by decide +kernel
theorem dX12_apartOf_4 : decode cX12_apartOf 4 = .ok (.iconst 3, 1) := by decide +kernel
theorem dX12_apartOf_5 : decode cX12_apartOf 5 = .ok (.iaload, 1) := by decide +kernel
theorem dX12_apartOf_6 : decode cX12_apartOf 6 = .ok (.ifCond .ne 10, 3) := by decide +kernel
theorem dX12_apartOf_9 : decode cX12_apartOf 9 = .ok (.aload_n 0, 1) := by decide +kernel
theorem dX12_apartOf_10 : decode cX12_apartOf 10 = .ok (.iload_n 1, 1) := by decide +kernel
theorem dX12_apartOf_11 : decode cX12_apartOf 11 = .ok (.iload_n 2, 1) := by decide +kernel
theorem dX12_apartOf_12 : decode cX12_apartOf 12 = .ok (.invokevirtual 129, 3) := by decide +kernel
theorem dX12_apartOf_15 : decode cX12_apartOf 15 = .ok (.ireturn, 1) := by decide +kernel
theorem dX12_apartOf_16 : decode cX12_apartOf 16 = .ok (.aload_n 0, 1) := by decide +kernel
theorem dX12_apartOf_17 : decode cX12_apartOf 17 = .ok (.getfield 8, 3) := by decide +kernel
theorem dX12_apartOf_20 : decode cX12_apartOf 20 = .ok (.iconst 3, 1) := by decide +kernel
theorem dX12_apartOf_21 : decode cX12_apartOf 21 = .ok (.iaload, 1) := by decide +kernel
theorem dX12_apartOf_22 : decode cX12_apartOf 22 = .ok (.iconst 1, 1) := by decide +kernel
theorem dX12_apartOf_23 : decode cX12_apartOf 23 = .ok (.if_icmp .eq 20, 3) := by decide +kernel
theorem dX12_apartOf_26 : decode cX12_apartOf 26 = .ok (.aload_n 0, 1) := by decide +kernel
theorem dX12_apartOf_27 : decode cX12_apartOf 27 = .ok (.getfield 8, 3) := by decide +kernel
theorem dX12_apartOf_30 : decode cX12_apartOf 30 = .ok (.iconst 3, 1) := by decide +kernel
theorem dX12_apartOf_31 : decode cX12_apartOf 31 = .ok (.iaload, 1) := by decide +kernel
theorem dX12_apartOf_32 : decode cX12_apartOf 32 = .ok (.iconst 2, 1) := by decide +kernel
theorem dX12_apartOf_33 : decode cX12_apartOf 33 = .ok (.if_icmp .eq 10, 3) := by decide +kernel
theorem dX12_apartOf_36 : decode cX12_apartOf 36 = .ok (.aload_n 0, 1) := by decide +kernel
theorem dX12_apartOf_37 : decode cX12_apartOf 37 = .ok (.iload_n 1, 1) := by decide +kernel
theorem dX12_apartOf_38 : decode cX12_apartOf 38 = .ok (.iload_n 2, 1) := by decide +kernel
theorem dX12_apartOf_39 : decode cX12_apartOf 39 = .ok (.invokevirtual 132, 3) := by decide +kernel
theorem dX12_apartOf_42 : decode cX12_apartOf 42 = .ok (.ireturn, 1) := by decide +kernel
theorem dX12_apartOf_43 : decode cX12_apartOf 43 = .ok (.iconst 0, 1) := by decide +kernel
theorem dX12_apartOf_44 : decode cX12_apartOf 44 = .ok (.istore_n 3, 1) := by decide +kernel
theorem dX12_apartOf_45 : decode cX12_apartOf 45 = .ok (.iconst 0, 1) := by decide +kernel
theorem dX12_apartOf_46 : decode cX12_apartOf 46 = .ok (.istore 4, 2) := by decide +kernel
theorem dX12_apartOf_48 : decode cX12_apartOf 48 = .ok (.iload 4, 2) := by decide +kernel
theorem dX12_apartOf_50 : decode cX12_apartOf 50 = .ok (.bipush 6, 2) := by decide +kernel
theorem dX12_apartOf_52 : decode cX12_apartOf 52 = .ok (.if_icmp .ge 55, 3) := by decide +kernel
theorem dX12_apartOf_55 : decode cX12_apartOf 55 = .ok (.iload_n 1, 1) := by decide +kernel
theorem dX12_apartOf_56 : decode cX12_apartOf 56 = .ok (.iload 4, 2) := by decide +kernel
theorem dX12_apartOf_58 : decode cX12_apartOf 58 = .ok (.invokestatic 122, 3) := by decide +kernel
theorem dX12_apartOf_61 : decode cX12_apartOf 61 = .ok (.iload_n 2, 1) := by decide +kernel
theorem dX12_apartOf_62 : decode cX12_apartOf 62 = .ok (.iload 4, 2) := by decide +kernel
theorem dX12_apartOf_64 : decode cX12_apartOf 64 = .ok (.invokestatic 122, 3) := by decide +kernel
theorem dX12_apartOf_67 : decode cX12_apartOf 67 = .ok (.isub, 1) := by decide +kernel
theorem dX12_apartOf_68 : decode cX12_apartOf 68 = .ok (.invokestatic 135, 3) := by decide +kernel
theorem dX12_apartOf_71 : decode cX12_apartOf 71 = .ok (.istore 5, 2) := by decide +kernel
theorem dX12_apartOf_73 : decode cX12_apartOf 73 = .ok (.iload_n 3, 1) := by decide +kernel
theorem dX12_apartOf_74 : decode cX12_apartOf 74 = .ok (.aload_n 0, 1) := by decide +kernel
theorem dX12_apartOf_75 : decode cX12_apartOf 75 = .ok (.getfield 8, 3) := by decide +kernel
theorem dX12_apartOf_78 : decode cX12_apartOf 78 = .ok (.iconst 3, 1) := by decide +kernel
theorem dX12_apartOf_79 : decode cX12_apartOf 79 = .ok (.iaload, 1) := by decide +kernel
theorem dX12_apartOf_80 : decode cX12_apartOf 80 = .ok (.iconst 2, 1) := by decide +kernel
theorem dX12_apartOf_81 : decode cX12_apartOf 81 = .ok (.if_icmp .ne 8, 3) := by decide +kernel
theorem dX12_apartOf_84 : decode cX12_apartOf 84 = .ok (.iload 5, 2) := by decide +kernel
theorem dX12_apartOf_86 : decode cX12_apartOf 86 = .ok (.goto 13, 3) := by decide +kernel
theorem dX12_apartOf_89 : decode cX12_apartOf 89 = .ok (.iload 5, 2) := by decide +kernel
theorem dX12_apartOf_91 : decode cX12_apartOf 91 = .ok (.ifCond .ne 7, 3) := by decide +kernel
theorem dX12_apartOf_94 : decode cX12_apartOf 94 = .ok (.iconst 0, 1) := by decide +kernel
theorem dX12_apartOf_95 : decode cX12_apartOf 95 = .ok (.goto 4, 3) := by decide +kernel
theorem dX12_apartOf_98 : decode cX12_apartOf 98 = .ok (.iconst 1, 1) := by decide +kernel
theorem dX12_apartOf_99 : decode cX12_apartOf 99 = .ok (.iadd, 1) := by decide +kernel
theorem dX12_apartOf_100 : decode cX12_apartOf 100 = .ok (.istore_n 3, 1) := by decide +kernel
theorem dX12_apartOf_101 : decode cX12_apartOf 101 = .ok (.iinc 4 1, 3) := by decide +kernel
theorem dX12_apartOf_104 : decode cX12_apartOf 104 = .ok (.goto (-56), 3) := by decide +kernel
theorem dX12_apartOf_107 : decode cX12_apartOf 107 = .ok (.iload_n 3, 1) := by decide +kernel
theorem dX12_apartOf_108 : decode cX12_apartOf 108 = .ok (.ireturn, 1) := by decide +kernel
theorem dX12_wordOf_0 : decode cX12_wordOf 0 = .ok (.aload_n 0, 1) := by decide +kernel
theorem dX12_wordOf_1 : decode cX12_wordOf 1 = .ok (.getfield 8, 3) := by decide +kernel
theorem dX12_wordOf_4 : decode cX12_wordOf 4 = .ok (.bipush 6, 2) := by decide +kernel
theorem dX12_wordOf_6 : decode cX12_wordOf 6 = .ok (.iload_n 1, 1) := by decide +kernel
theorem dX12_wordOf_7 : decode cX12_wordOf 7 = .ok (.iadd, 1) := by decide +kernel
theorem dX12_wordOf_8 : decode cX12_wordOf 8 = .ok (.iaload, 1) := by decide +kernel
theorem dX12_wordOf_9 : decode cX12_wordOf 9 = .ok (.ireturn, 1) := by decide +kernel
theorem dX12_isThing_0 : decode cX12_isThing 0 = .ok (.iload_n 1, 1) := by decide +kernel
theorem dX12_isThing_1 : decode cX12_isThing 1 = .ok (.iconst 0, 1) := by decide +kernel
theorem dX12_isThing_2 : decode cX12_isThing 2 = .ok (.bipush 39, 2) := by decide +kernel
theorem dX12_isThing_4 : decode cX12_isThing 4 = .ok (.invokestatic 114, 3) := by decide +kernel
theorem dX12_isThing_7 : decode cX12_isThing 7 = .ok (.ifCond .eq 15, 3) := by decide +kernel
theorem dX12_isThing_10 : decode cX12_isThing 10 = .ok (.aload_n 0, 1) := by decide +kernel
theorem dX12_isThing_11 : decode cX12_isThing 11 = .ok (.iload_n 1, 1) := by decide +kernel
theorem dX12_isThing_12 : decode cX12_isThing 12 = .ok (.invokevirtual 138, 3) := by decide +kernel
theorem dX12_isThing_15 : decode cX12_isThing 15 = .ok (.ifCond .eq 7, 3) := by decide +kernel
theorem dX12_isThing_18 : decode cX12_isThing 18 = .ok (.iconst 1, 1) := by decide +kernel
theorem dX12_isThing_19 : decode cX12_isThing 19 = .ok (.goto 4, 3) := by decide +kernel
theorem dX12_isThing_22 : decode cX12_isThing 22 = .ok (.iconst 0, 1) := by decide +kernel
theorem dX12_isThing_23 : decode cX12_isThing 23 = .ok (.ireturn, 1) := by decide +kernel
theorem dX12_things_0 : decode cX12_things 0 = .ok (.iconst 0, 1) := by decide +kernel
theorem dX12_things_1 : decode cX12_things 1 = .ok (.istore_n 1, 1) := by decide +kernel
theorem dX12_things_2 : decode cX12_things 2 = .ok (.iconst 0, 1) := by decide +kernel
theorem dX12_things_3 : decode cX12_things 3 = .ok (.istore_n 2, 1) := by decide +kernel
theorem dX12_things_4 : decode cX12_things 4 = .ok (.iload_n 2, 1) := by decide +kernel
theorem dX12_things_5 : decode cX12_things 5 = .ok (.bipush 40, 2) := by decide +kernel
theorem dX12_things_7 : decode cX12_things 7 = .ok (.if_icmp .ge 25, 3) := by decide +kernel
theorem dX12_things_10 : decode cX12_things 10 = .ok (.iload_n 1, 1) := by decide +kernel
theorem dX12_things_11 : decode cX12_things 11 = .ok (.aload_n 0, 1) := by decide +kernel
theorem dX12_things_12 : decode cX12_things 12 = .ok (.iload_n 2, 1) := by decide +kernel
theorem dX12_things_13 : decode cX12_things 13 = .ok (.invokevirtual 141, 3) := by decide +kernel
theorem dX12_things_16 : decode cX12_things 16 = .ok (.ifCond .eq 7, 3) := by decide +kernel
theorem dX12_things_19 : decode cX12_things 19 = .ok (.iconst 1, 1) := by decide +kernel
theorem dX12_things_20 : decode cX12_things 20 = .ok (.goto 4, 3) := by decide +kernel
theorem dX12_things_23 : decode cX12_things 23 = .ok (.iconst 0, 1) := by decide +kernel
theorem dX12_things_24 : decode cX12_things 24 = .ok (.iadd, 1) := by decide +kernel
theorem dX12_things_25 : decode cX12_things 25 = .ok (.istore_n 1, 1) := by decide +kernel
theorem dX12_things_26 : decode cX12_things 26 = .ok (.iinc 2 1, 3) := by decide +kernel
theorem dX12_things_29 : decode cX12_things 29 = .ok (.goto (-25), 3) := by decide +kernel
theorem dX12_things_32 : decode cX12_things 32 = .ok (.iload_n 1, 1) := by decide +kernel
theorem dX12_things_33 : decode cX12_things 33 = .ok (.ireturn, 1) := by decide +kernel
theorem dX12_toldAt_0 : decode cX12_toldAt 0 = .ok (.iconst 0, 1) := by decide +kernel
theorem dX12_toldAt_1 : decode cX12_toldAt 1 = .ok (.istore_n 3, 1) := by decide +kernel
theorem dX12_toldAt_2 : decode cX12_toldAt 2 = .ok (.iload_n 3, 1) := by decide +kernel
theorem dX12_toldAt_3 : decode cX12_toldAt 3 = .ok (.aload_n 0, 1) := by decide +kernel
theorem dX12_toldAt_4 : decode cX12_toldAt 4 = .ok (.getfield 8, 3) := by decide +kernel
theorem dX12_toldAt_7 : decode cX12_toldAt 7 = .ok (.iconst 5, 1) := by decide +kernel
theorem dX12_toldAt_8 : decode cX12_toldAt 8 = .ok (.iaload, 1) := by decide +kernel
theorem dX12_toldAt_9 : decode cX12_toldAt 9 = .ok (.if_icmp .ge 43, 3) := by decide +kernel
theorem dX12_toldAt_12 : decode cX12_toldAt 12 = .ok (.aload_n 0, 1) := by decide +kernel
theorem dX12_toldAt_13 : decode cX12_toldAt 13 = .ok (.getfield 8, 3) := by decide +kernel
theorem dX12_toldAt_16 : decode cX12_toldAt 16 = .ok (.bipush 46, 2) := by decide +kernel
theorem dX12_toldAt_18 : decode cX12_toldAt 18 = .ok (.iconst 3, 1) := by decide +kernel
theorem dX12_toldAt_19 : decode cX12_toldAt 19 = .ok (.iload_n 3, 1) := by decide +kernel
theorem dX12_toldAt_20 : decode cX12_toldAt 20 = .ok (.imul, 1) := by decide +kernel
theorem dX12_toldAt_21 : decode cX12_toldAt 21 = .ok (.iadd, 1) := by decide +kernel
theorem dX12_toldAt_22 : decode cX12_toldAt 22 = .ok (.iaload, 1) := by decide +kernel
theorem dX12_toldAt_23 : decode cX12_toldAt 23 = .ok (.iload_n 1, 1) := by decide +kernel
theorem dX12_toldAt_24 : decode cX12_toldAt 24 = .ok (.if_icmp .ne 22, 3) := by decide +kernel
theorem dX12_toldAt_27 : decode cX12_toldAt 27 = .ok (.aload_n 0, 1) := by decide +kernel
theorem dX12_toldAt_28 : decode cX12_toldAt 28 = .ok (.getfield 8, 3) := by decide +kernel
theorem dX12_toldAt_31 : decode cX12_toldAt 31 = .ok (.bipush 46, 2) := by decide +kernel
theorem dX12_toldAt_33 : decode cX12_toldAt 33 = .ok (.iconst 3, 1) := by decide +kernel
theorem dX12_toldAt_34 : decode cX12_toldAt 34 = .ok (.iload_n 3, 1) := by decide +kernel
theorem dX12_toldAt_35 : decode cX12_toldAt 35 = .ok (.imul, 1) := by decide +kernel
theorem dX12_toldAt_36 : decode cX12_toldAt 36 = .ok (.iadd, 1) := by decide +kernel
theorem dX12_toldAt_37 : decode cX12_toldAt 37 = .ok (.iconst 1, 1) := by decide +kernel
theorem dX12_toldAt_38 : decode cX12_toldAt 38 = .ok (.iadd, 1) := by decide +kernel
theorem dX12_toldAt_39 : decode cX12_toldAt 39 = .ok (.iaload, 1) := by decide +kernel
theorem dX12_toldAt_40 : decode cX12_toldAt 40 = .ok (.iload_n 2, 1) := by decide +kernel
theorem dX12_toldAt_41 : decode cX12_toldAt 41 = .ok (.if_icmp .ne 5, 3) := by decide +kernel
theorem dX12_toldAt_44 : decode cX12_toldAt 44 = .ok (.iload_n 3, 1) := by decide +kernel
theorem dX12_toldAt_45 : decode cX12_toldAt 45 = .ok (.ireturn, 1) := by decide +kernel
theorem dX12_toldAt_46 : decode cX12_toldAt 46 = .ok (.iinc 3 1, 3) := by decide +kernel
theorem dX12_toldAt_49 : decode cX12_toldAt 49 = .ok (.goto (-47), 3) := by decide +kernel
theorem dX12_toldAt_52 : decode cX12_toldAt 52 = .ok (.iconst (-1), 1) := by decide +kernel
theorem dX12_toldAt_53 : decode cX12_toldAt 53 = .ok (.ireturn, 1) := by decide +kernel
theorem dX12_farOf_0 : decode cX12_farOf 0 = .ok (.aload_n 0, 1) := by decide +kernel
theorem dX12_farOf_1 : decode cX12_farOf 1 = .ok (.iload_n 1, 1) := by decide +kernel
theorem dX12_farOf_2 : decode cX12_farOf 2 = .ok (.iload_n 2, 1) := by decide +kernel
theorem dX12_farOf_3 : decode cX12_farOf 3 = .ok (.invokevirtual 145, 3) := by decide +kernel
theorem dX12_farOf_6 : decode cX12_farOf 6 = .ok (.istore_n 3, 1) := by decide +kernel
theorem dX12_farOf_7 : decode cX12_farOf 7 = .ok (.iload_n 3, 1) := by decide +kernel
theorem dX12_farOf_8 : decode cX12_farOf 8 = .ok (.iconst (-1), 1) := by decide +kernel
theorem dX12_farOf_9 : decode cX12_farOf 9 = .ok (.if_icmp .ne 20, 3) := by decide +kernel
theorem dX12_farOf_12 : decode cX12_farOf 12 = .ok (.aload_n 0, 1) := by decide +kernel
theorem dX12_farOf_13 : decode cX12_farOf 13 = .ok (.aload_n 0, 1) := by decide +kernel
theorem dX12_farOf_14 : decode cX12_farOf 14 = .ok (.iload_n 1, 1) := by decide +kernel
theorem dX12_farOf_15 : decode cX12_farOf 15 = .ok (.invokevirtual 138, 3) := by decide +kernel
theorem dX12_farOf_18 : decode cX12_farOf 18 = .ok (.aload_n 0, 1) := by decide +kernel
theorem dX12_farOf_19 : decode cX12_farOf 19 = .ok (.iload_n 2, 1) := by decide +kernel
theorem dX12_farOf_20 : decode cX12_farOf 20 = .ok (.invokevirtual 138, 3) := by decide +kernel
theorem dX12_farOf_23 : decode cX12_farOf 23 = .ok (.invokevirtual 148, 3) := by decide +kernel
theorem dX12_farOf_26 : decode cX12_farOf 26 = .ok (.goto 16, 3) := by decide +kernel
theorem dX12_farOf_29 : decode cX12_farOf 29 = .ok (.aload_n 0, 1) := by decide +kernel
theorem dX12_farOf_30 : decode cX12_farOf 30 = .ok (.getfield 8, 3) := by decide +kernel
theorem dX12_farOf_33 : decode cX12_farOf 33 = .ok (.bipush 46, 2) := by decide +kernel
theorem dX12_farOf_35 : decode cX12_farOf 35 = .ok (.iconst 3, 1) := by decide +kernel
theorem dX12_farOf_36 : decode cX12_farOf 36 = .ok (.iload_n 3, 1) := by decide +kernel
theorem dX12_farOf_37 : decode cX12_farOf 37 = .ok (.imul, 1) := by decide +kernel
theorem dX12_farOf_38 : decode cX12_farOf 38 = .ok (.iadd, 1) := by decide +kernel
theorem dX12_farOf_39 : decode cX12_farOf 39 = .ok (.iconst 2, 1) := by decide +kernel
theorem dX12_farOf_40 : decode cX12_farOf 40 = .ok (.iadd, 1) := by decide +kernel
theorem dX12_farOf_41 : decode cX12_farOf 41 = .ok (.iaload, 1) := by decide +kernel
theorem dX12_farOf_42 : decode cX12_farOf 42 = .ok (.ireturn, 1) := by decide +kernel
theorem dX12_at_0 : decode cX12_at 0 = .ok (.aload_n 0, 1) := by decide +kernel
theorem dX12_at_1 : decode cX12_at 1 = .ok (.getfield 8, 3) := by decide +kernel
theorem dX12_at_4 : decode cX12_at 4 = .ok (.bipush 94, 2) := by decide +kernel
theorem dX12_at_6 : decode cX12_at 6 = .ok (.bipush 30, 2) := by decide +kernel
theorem dX12_at_8 : decode cX12_at 8 = .ok (.iload_n 1, 1) := by decide +kernel
theorem dX12_at_9 : decode cX12_at 9 = .ok (.imul, 1) := by decide +kernel
theorem dX12_at_10 : decode cX12_at 10 = .ok (.iadd, 1) := by decide +kernel
theorem dX12_at_11 : decode cX12_at 11 = .ok (.iload_n 2, 1) := by decide +kernel
theorem dX12_at_12 : decode cX12_at 12 = .ok (.iadd, 1) := by decide +kernel
theorem dX12_at_13 : decode cX12_at 13 = .ok (.iaload, 1) := by decide +kernel
theorem dX12_at_14 : decode cX12_at 14 = .ok (.ireturn, 1) := by decide +kernel
theorem dX12_countOf_0 : decode cX12_countOf 0 = .ok (.aload_n 0, 1) := by decide +kernel
theorem dX12_countOf_1 : decode cX12_countOf 1 = .ok (.iload_n 1, 1) := by decide +kernel
theorem dX12_countOf_2 : decode cX12_countOf 2 = .ok (.iconst 0, 1) := by decide +kernel
theorem dX12_countOf_3 : decode cX12_countOf 3 = .ok (.invokevirtual 151, 3) := by decide +kernel
theorem dX12_countOf_6 : decode cX12_countOf 6 = .ok (.ireturn, 1) := by decide +kernel
theorem dX12_isLeaf_0 : decode cX12_isLeaf 0 = .ok (.aload_n 0, 1) := by decide +kernel
theorem dX12_isLeaf_1 : decode cX12_isLeaf 1 = .ok (.iload_n 1, 1) := by decide +kernel
theorem dX12_isLeaf_2 : decode cX12_isLeaf 2 = .ok (.iconst 1, 1) := by decide +kernel
theorem dX12_isLeaf_3 : decode cX12_isLeaf 3 = .ok (.invokevirtual 151, 3) := by decide +kernel
theorem dX12_isLeaf_6 : decode cX12_isLeaf 6 = .ok (.iconst 1, 1) := by decide +kernel
theorem dX12_isLeaf_7 : decode cX12_isLeaf 7 = .ok (.if_icmp .ne 7, 3) := by decide +kernel
theorem dX12_isLeaf_10 : decode cX12_isLeaf 10 = .ok (.iconst 1, 1) := by decide +kernel
theorem dX12_isLeaf_11 : decode cX12_isLeaf 11 = .ok (.goto 4, 3) := by decide +kernel
theorem dX12_isLeaf_14 : decode cX12_isLeaf 14 = .ok (.iconst 0, 1) := by decide +kernel
theorem dX12_isLeaf_15 : decode cX12_isLeaf 15 = .ok (.ireturn, 1) := by decide +kernel
theorem dX12_entryOf_0 : decode cX12_entryOf 0 = .ok (.aload_n 0, 1) := by decide +kernel
theorem dX12_entryOf_1 : decode cX12_entryOf 1 = .ok (.iload_n 1, 1) := by decide +kernel
theorem dX12_entryOf_2 : decode cX12_entryOf 2 = .ok (.iconst 2, 1) := by decide +kernel
theorem dX12_entryOf_3 : decode cX12_entryOf 3 = .ok (.iconst 4, 1) := by decide +kernel
theorem dX12_entryOf_4 : decode cX12_entryOf 4 = .ok (.iload_n 2, 1) := by decide +kernel
theorem dX12_entryOf_5 : decode cX12_entryOf 5 = .ok (.imul, 1) := by decide +kernel
theorem dX12_entryOf_6 : decode cX12_entryOf 6 = .ok (.iadd, 1) := by decide +kernel
theorem dX12_entryOf_7 : decode cX12_entryOf 7 = .ok (.iload_n 3, 1) := by decide +kernel
theorem dX12_entryOf_8 : decode cX12_entryOf 8 = .ok (.iadd, 1) := by decide +kernel
theorem dX12_entryOf_9 : decode cX12_entryOf 9 = .ok (.invokevirtual 151, 3) := by decide +kernel
theorem dX12_entryOf_12 : decode cX12_entryOf 12 = .ok (.ireturn, 1) := by decide +kernel
theorem dX12_let_0 : decode cX12_let 0 = .ok (.aload_n 0, 1) := by decide +kernel
theorem dX12_let_1 : decode cX12_let 1 = .ok (.getfield 8, 3) := by decide +kernel
theorem dX12_let_4 : decode cX12_let 4 = .ok (.bipush 94, 2) := by decide +kernel
theorem dX12_let_6 : decode cX12_let 6 = .ok (.bipush 30, 2) := by decide +kernel
theorem dX12_let_8 : decode cX12_let 8 = .ok (.iload_n 1, 1) := by decide +kernel
theorem dX12_let_9 : decode cX12_let 9 = .ok (.imul, 1) := by decide +kernel
theorem dX12_let_10 : decode cX12_let 10 = .ok (.iadd, 1) := by decide +kernel
theorem dX12_let_11 : decode cX12_let 11 = .ok (.iload_n 2, 1) := by decide +kernel
theorem dX12_let_12 : decode cX12_let 12 = .ok (.iadd, 1) := by decide +kernel
theorem dX12_let_13 : decode cX12_let 13 = .ok (.iload_n 3, 1) := by decide +kernel
theorem dX12_let_14 : decode cX12_let 14 = .ok (.iastore, 1) := by decide +kernel
theorem dX12_let_15 : decode cX12_let 15 = .ok (.return_, 1) := by decide +kernel
theorem dX12_letEntry_0 : decode cX12_letEntry 0 = .ok (.aload_n 0, 1) := by decide +kernel
theorem dX12_letEntry_1 : decode cX12_letEntry 1 = .ok (.iload_n 1, 1) := by decide +kernel
theorem dX12_letEntry_2 : decode cX12_letEntry 2 = .ok (.iconst 2, 1) := by decide +kernel
theorem dX12_letEntry_3 : decode cX12_letEntry 3 = .ok (.iconst 4, 1) := by decide +kernel
theorem dX12_letEntry_4 : decode cX12_letEntry 4 = .ok (.iload_n 2, 1) := by decide +kernel
theorem dX12_letEntry_5 : decode cX12_letEntry 5 = .ok (.imul, 1) := by decide +kernel
theorem dX12_letEntry_6 : decode cX12_letEntry 6 = .ok (.iadd, 1) := by decide +kernel
theorem dX12_letEntry_7 : decode cX12_letEntry 7 = .ok (.iload_n 3, 1) := by decide +kernel
theorem dX12_letEntry_8 : decode cX12_letEntry 8 = .ok (.iadd, 1) := by decide +kernel
theorem dX12_letEntry_9 : decode cX12_letEntry 9 = .ok (.iload 4, 2) := by decide +kernel
theorem dX12_letEntry_11 : decode cX12_letEntry 11 = .ok (.invokevirtual 154, 3) := by decide +kernel
theorem dX12_letEntry_14 : decode cX12_letEntry 14 = .ok (.return_, 1) := by decide +kernel
theorem dX12_layEntry_0 : decode cX12_layEntry 0 = .ok (.aload_n 0, 1) := by decide +kernel
theorem dX12_layEntry_1 : decode cX12_layEntry 1 = .ok (.iload_n 1, 1) := by decide +kernel
theorem dX12_layEntry_2 : decode cX12_layEntry 2 = .ok (.iload_n 2, 1) := by decide +kernel
theorem dX12_layEntry_3 : decode cX12_layEntry 3 = .ok (.iconst 0, 1) := by decide +kernel
theorem dX12_layEntry_4 : decode cX12_layEntry 4 = .ok (.iload_n 3, 1) := by decide +kernel
theorem dX12_layEntry_5 : decode cX12_layEntry 5 = .ok (.invokevirtual 158, 3) := by decide +kernel
theorem dX12_layEntry_8 : decode cX12_layEntry 8 = .ok (.aload_n 0, 1) := by decide +kernel
theorem dX12_layEntry_9 : decode cX12_layEntry 9 = .ok (.iload_n 1, 1) := by decide +kernel
theorem dX12_layEntry_10 : decode cX12_layEntry 10 = .ok (.iload_n 2, 1) := by decide +kernel
theorem dX12_layEntry_11 : decode cX12_layEntry 11 = .ok (.iconst 1, 1) := by decide +kernel
theorem dX12_layEntry_12 : decode cX12_layEntry 12 = .ok (.iload 4, 2) := by decide +kernel
theorem dX12_layEntry_14 : decode cX12_layEntry 14 = .ok (.invokevirtual 158, 3) := by decide +kernel
theorem dX12_layEntry_17 : decode cX12_layEntry 17 = .ok (.aload_n 0, 1) := by decide +kernel
theorem dX12_layEntry_18 : decode cX12_layEntry 18 = .ok (.iload_n 1, 1) := by decide +kernel
theorem dX12_layEntry_19 : decode cX12_layEntry 19 = .ok (.iload_n 2, 1) := by decide +kernel
theorem dX12_layEntry_20 : decode cX12_layEntry 20 = .ok (.iconst 2, 1) := by decide +kernel
theorem dX12_layEntry_21 : decode cX12_layEntry 21 = .ok (.iload 5, 2) := by decide +kernel
theorem dX12_layEntry_23 : decode cX12_layEntry 23 = .ok (.invokevirtual 158, 3) := by decide +kernel
theorem dX12_layEntry_26 : decode cX12_layEntry 26 = .ok (.aload_n 0, 1) := by decide +kernel
theorem dX12_layEntry_27 : decode cX12_layEntry 27 = .ok (.iload_n 1, 1) := by decide +kernel
theorem dX12_layEntry_28 : decode cX12_layEntry 28 = .ok (.iload_n 2, 1) := by decide +kernel
theorem dX12_layEntry_29 : decode cX12_layEntry 29 = .ok (.iconst 3, 1) := by decide +kernel
theorem dX12_layEntry_30 : decode cX12_layEntry 30 = .ok (.iload 6, 2) := by decide +kernel
theorem dX12_layEntry_32 : decode cX12_layEntry 32 = .ok (.invokevirtual 158, 3) := by decide +kernel
theorem dX12_layEntry_35 : decode cX12_layEntry 35 = .ok (.return_, 1) := by decide +kernel
theorem dX12_newPage_0 : decode cX12_newPage 0 = .ok (.iconst 0, 1) := by decide +kernel
theorem dX12_newPage_1 : decode cX12_newPage 1 = .ok (.istore_n 2, 1) := by decide +kernel
theorem dX12_newPage_2 : decode cX12_newPage 2 = .ok (.aload_n 0, 1) := by decide +kernel
theorem dX12_newPage_3 : decode cX12_newPage 3 = .ok (.iload_n 2, 1) := by decide +kernel
theorem dX12_newPage_4 : decode cX12_newPage 4 = .ok (.invokevirtual 162, 3) := by decide +kernel
theorem dX12_newPage_7 : decode cX12_newPage 7 = .ok (.iconst (-1), 1) := by decide +kernel
theorem dX12_newPage_8 : decode cX12_newPage 8 = .ok (.if_icmp .eq 9, 3) := by decide +kernel
theorem dX12_newPage_11 : decode cX12_newPage 11 = .ok (.iinc 2 1, 3) := by decide +kernel
theorem dX12_newPage_14 : decode cX12_newPage 14 = .ok (.goto (-12), 3) := by decide +kernel
theorem dX12_newPage_17 : decode cX12_newPage 17 = .ok (.iconst 0, 1) := by decide +kernel
theorem dX12_newPage_18 : decode cX12_newPage 18 = .ok (.istore_n 3, 1) := by decide +kernel
theorem dX12_newPage_19 : decode cX12_newPage 19 = .ok (.iload_n 3, 1) := by decide +kernel
theorem dX12_newPage_20 : decode cX12_newPage 20 = .ok (.bipush 30, 2) := by decide +kernel
theorem dX12_newPage_22 : decode cX12_newPage 22 = .ok (.if_icmp .ge 16, 3) := by decide +kernel
theorem dX12_newPage_25 : decode cX12_newPage 25 = .ok (.aload_n 0, 1) := by decide +kernel
theorem dX12_newPage_26 : decode cX12_newPage 26 = .ok (.iload_n 2, 1) := by decide +kernel
theorem dX12_newPage_27 : decode cX12_newPage 27 = .ok (.iload_n 3, 1) := by decide +kernel
theorem dX12_newPage_28 : decode cX12_newPage 28 = .ok (.iconst 0, 1) := by decide +kernel
theorem dX12_newPage_29 : decode cX12_newPage 29 = .ok (.invokevirtual 154, 3) := by decide +kernel
theorem dX12_newPage_32 : decode cX12_newPage 32 = .ok (.iinc 3 1, 3) := by decide +kernel
theorem dX12_newPage_35 : decode cX12_newPage 35 = .ok (.goto (-16), 3) := by decide +kernel
theorem dX12_newPage_38 : decode cX12_newPage 38 = .ok (.iload_n 1, 1) := by decide +kernel
theorem dX12_newPage_39 : decode cX12_newPage 39 = .ok (.ifCond .eq 10, 3) := by decide +kernel
theorem dX12_newPage_42 : decode cX12_newPage 42 = .ok (.aload_n 0, 1) := by decide +kernel
theorem dX12_newPage_43 : decode cX12_newPage 43 = .ok (.iload_n 2, 1) := by decide +kernel
theorem dX12_newPage_44 : decode cX12_newPage 44 = .ok (.iconst 1, 1) := by decide +kernel
theorem dX12_newPage_45 : decode cX12_newPage 45 = .ok (.iconst 1, 1) := by decide +kernel
theorem dX12_newPage_46 : decode cX12_newPage 46 = .ok (.invokevirtual 154, 3) := by decide +kernel
theorem dX12_newPage_49 : decode cX12_newPage 49 = .ok (.iload_n 2, 1) := by decide +kernel
theorem dX12_newPage_50 : decode cX12_newPage 50 = .ok (.ireturn, 1) := by decide +kernel
theorem dX12_freePage_0 : decode cX12_freePage 0 = .ok (.iconst 0, 1) := by decide +kernel
theorem dX12_freePage_1 : decode cX12_freePage 1 = .ok (.istore_n 2, 1) := by decide +kernel
theorem dX12_freePage_2 : decode cX12_freePage 2 = .ok (.iload_n 2, 1) := by decide +kernel
theorem dX12_freePage_3 : decode cX12_freePage 3 = .ok (.bipush 30, 2) := by decide +kernel
theorem dX12_freePage_5 : decode cX12_freePage 5 = .ok (.if_icmp .ge 16, 3) := by decide +kernel
theorem dX12_freePage_8 : decode cX12_freePage 8 = .ok (.aload_n 0, 1) := by decide +kernel
theorem dX12_freePage_9 : decode cX12_freePage 9 = .ok (.iload_n 1, 1) := by decide +kernel
theorem dX12_freePage_10 : decode cX12_freePage 10 = .ok (.iload_n 2, 1) := by decide +kernel
theorem dX12_freePage_11 : decode cX12_freePage 11 = .ok (.iconst 0, 1) := by decide +kernel
theorem dX12_freePage_12 : decode cX12_freePage 12 = .ok (.invokevirtual 154, 3) := by decide +kernel
theorem dX12_freePage_15 : decode cX12_freePage 15 = .ok (.iinc 2 1, 3) := by decide +kernel
theorem dX12_freePage_18 : decode cX12_freePage 18 = .ok (.goto (-16), 3) := by decide +kernel
theorem dX12_freePage_21 : decode cX12_freePage 21 = .ok (.aload_n 0, 1) := by decide +kernel
theorem dX12_freePage_22 : decode cX12_freePage 22 = .ok (.iload_n 1, 1) := by decide +kernel
theorem dX12_freePage_23 : decode cX12_freePage 23 = .ok (.iconst 0, 1) := by decide +kernel
theorem dX12_freePage_24 : decode cX12_freePage 24 = .ok (.iconst (-1), 1) := by decide +kernel
theorem dX12_freePage_25 : decode cX12_freePage 25 = .ok (.invokevirtual 154, 3) := by decide +kernel
theorem dX12_freePage_28 : decode cX12_freePage 28 = .ok (.return_, 1) := by decide +kernel
theorem dX12_clearTree_0 : decode cX12_clearTree 0 = .ok (.iconst 0, 1) := by decide +kernel
theorem dX12_clearTree_1 : decode cX12_clearTree 1 = .ok (.istore_n 1, 1) := by decide +kernel
theorem dX12_clearTree_2 : decode cX12_clearTree 2 = .ok (.iload_n 1, 1) := by decide +kernel
theorem dX12_clearTree_3 : decode cX12_clearTree 3 = .ok (.sipush 784, 3) := by decide +kernel
theorem dX12_clearTree_6 : decode cX12_clearTree 6 = .ok (.if_icmp .ge 14, 3) := by decide +kernel
theorem dX12_clearTree_9 : decode cX12_clearTree 9 = .ok (.aload_n 0, 1) := by decide +kernel
theorem dX12_clearTree_10 : decode cX12_clearTree 10 = .ok (.iload_n 1, 1) := by decide +kernel
theorem dX12_clearTree_11 : decode cX12_clearTree 11 = .ok (.invokevirtual 165, 3) := by decide +kernel
theorem dX12_clearTree_14 : decode cX12_clearTree 14 = .ok (.iinc 1 1, 3) := by decide +kernel
theorem dX12_clearTree_17 : decode cX12_clearTree 17 = .ok (.goto (-15), 3) := by decide +kernel
theorem dX12_clearTree_20 : decode cX12_clearTree 20 = .ok (.aload_n 0, 1) := by decide +kernel
theorem dX12_clearTree_21 : decode cX12_clearTree 21 = .ok (.getfield 8, 3) := by decide +kernel
theorem dX12_clearTree_24 : decode cX12_clearTree 24 = .ok (.iconst 2, 1) := by decide +kernel
theorem dX12_clearTree_25 : decode cX12_clearTree 25 = .ok (.aload_n 0, 1) := by decide +kernel
theorem dX12_clearTree_26 : decode cX12_clearTree 26 = .ok (.iconst 1, 1) := by decide +kernel
theorem dX12_clearTree_27 : decode cX12_clearTree 27 = .ok (.invokevirtual 169, 3) := by decide +kernel
theorem dX12_clearTree_30 : decode cX12_clearTree 30 = .ok (.iastore, 1) := by decide +kernel
theorem dX12_clearTree_31 : decode cX12_clearTree 31 = .ok (.return_, 1) := by decide +kernel
theorem dX12_insert_0 : decode cX12_insert 0 = .ok (.aload_n 0, 1) := by decide +kernel
theorem dX12_insert_1 : decode cX12_insert 1 = .ok (.iload_n 1, 1) := by decide +kernel
theorem dX12_insert_2 : decode cX12_insert 2 = .ok (.invokevirtual 162, 3) := by decide +kernel
theorem dX12_insert_5 : decode cX12_insert 5 = .ok (.istore 7, 2) := by decide +kernel
theorem dX12_insert_7 : decode cX12_insert 7 = .ok (.iload 7, 2) := by decide +kernel
theorem dX12_insert_9 : decode cX12_insert 9 = .ok (.iload_n 2, 1) := by decide +kernel
theorem dX12_insert_10 : decode cX12_insert 10 = .ok (.if_icmp .le 56, 3) := by decide +kernel
theorem dX12_insert_13 : decode cX12_insert 13 = .ok (.aload_n 0, 1) := by decide +kernel
theorem dX12_insert_14 : decode cX12_insert 14 = .ok (.iload_n 1, 1) := by decide +kernel
theorem dX12_insert_15 : decode cX12_insert 15 = .ok (.iload 7, 2) := by decide +kernel
theorem dX12_insert_17 : decode cX12_insert 17 = .ok (.aload_n 0, 1) := by decide +kernel
theorem dX12_insert_18 : decode cX12_insert 18 = .ok (.iload_n 1, 1) := by decide +kernel
theorem dX12_insert_19 : decode cX12_insert 19 = .ok (.iload 7, 2) := by decide +kernel
theorem dX12_insert_21 : decode cX12_insert 21 = .ok (.iconst 1, 1) := by decide +kernel
theorem dX12_insert_22 : decode cX12_insert 22 = .ok (.isub, 1) := by decide +kernel
theorem dX12_insert_23 : decode cX12_insert 23 = .ok (.iconst 0, 1) := by decide +kernel
theorem dX12_insert_24 : decode cX12_insert 24 = .ok (.invokevirtual 173, 3) := by decide +kernel
theorem dX12_insert_27 : decode cX12_insert 27 = .ok (.aload_n 0, 1) := by decide +kernel
theorem dX12_insert_28 : decode cX12_insert 28 = .ok (.iload_n 1, 1) := by decide +kernel
theorem dX12_insert_29 : decode cX12_insert 29 = .ok (.iload 7, 2) := by decide +kernel
theorem dX12_insert_31 : decode cX12_insert 31 = .ok (.iconst 1, 1) := by decide +kernel
theorem dX12_insert_32 : decode cX12_insert 32 = .ok (.isub, 1) := by decide +kernel
theorem dX12_insert_33 : decode cX12_insert 33 = .ok (.iconst 1, 1) := by decide +kernel
theorem dX12_insert_34 : decode cX12_insert 34 = .ok (.invokevirtual 173, 3) := by decide +kernel
theorem dX12_insert_37 : decode cX12_insert 37 = .ok (.aload_n 0, 1) := by decide +kernel
theorem dX12_insert_38 : decode cX12_insert 38 = .ok (.iload_n 1, 1) := by decide +kernel
theorem dX12_insert_39 : decode cX12_insert 39 = .ok (.iload 7, 2) := by decide +kernel
theorem dX12_insert_41 : decode cX12_insert 41 = .ok (.iconst 1, 1) := by decide +kernel
theorem dX12_insert_42 : decode cX12_insert 42 = .ok (.isub, 1) := by decide +kernel
theorem dX12_insert_43 : decode cX12_insert 43 = .ok (.iconst 2, 1) := by decide +kernel
theorem dX12_insert_44 : decode cX12_insert 44 = .ok (.invokevirtual 173, 3) := by decide +kernel
theorem dX12_insert_47 : decode cX12_insert 47 = .ok (.aload_n 0, 1) := by decide +kernel
theorem dX12_insert_48 : decode cX12_insert 48 = .ok (.iload_n 1, 1) := by decide +kernel
theorem dX12_insert_49 : decode cX12_insert 49 = .ok (.iload 7, 2) := by decide +kernel
theorem dX12_insert_51 : decode cX12_insert 51 = .ok (.iconst 1, 1) := by decide +kernel
theorem dX12_insert_52 : decode cX12_insert 52 = .ok (.isub, 1) := by decide +kernel
theorem dX12_insert_53 : decode cX12_insert 53 = .ok (.iconst 3, 1) := by decide +kernel
theorem dX12_insert_54 : decode cX12_insert 54 = .ok (.invokevirtual 173, 3) := by decide +kernel
theorem dX12_insert_57 : decode cX12_insert 57 = .ok (.invokevirtual 177, 3) := by decide +kernel
theorem dX12_insert_60 : decode cX12_insert 60 = .ok (.iinc 7 (-1), 3) := by decide +kernel
theorem dX12_insert_63 : decode cX12_insert 63 = .ok (.goto (-56), 3) := by decide +kernel
theorem dX12_insert_66 : decode cX12_insert 66 = .ok (.aload_n 0, 1) := by decide +kernel
theorem dX12_insert_67 : decode cX12_insert 67 = .ok (.iload_n 1, 1) := by decide +kernel
theorem dX12_insert_68 : decode cX12_insert 68 = .ok (.iload_n 2, 1) := by decide +kernel
theorem dX12_insert_69 : decode cX12_insert 69 = .ok (.iload_n 3, 1) := by decide +kernel
theorem dX12_insert_70 : decode cX12_insert 70 = .ok (.iload 4, 2) := by decide +kernel
theorem dX12_insert_72 : decode cX12_insert 72 = .ok (.iload 5, 2) := by decide +kernel
theorem dX12_insert_74 : decode cX12_insert 74 = .ok (.iload 6, 2) := by decide +kernel
theorem dX12_insert_76 : decode cX12_insert 76 = .ok (.invokevirtual 177, 3) := by decide +kernel
theorem dX12_insert_79 : decode cX12_insert 79 = .ok (.aload_n 0, 1) := by decide +kernel
theorem dX12_insert_80 : decode cX12_insert 80 = .ok (.iload_n 1, 1) := by decide +kernel
theorem dX12_insert_81 : decode cX12_insert 81 = .ok (.iconst 0, 1) := by decide +kernel
theorem dX12_insert_82 : decode cX12_insert 82 = .ok (.aload_n 0, 1) := by decide +kernel
theorem dX12_insert_83 : decode cX12_insert 83 = .ok (.iload_n 1, 1) := by decide +kernel
theorem dX12_insert_84 : decode cX12_insert 84 = .ok (.invokevirtual 162, 3) := by decide +kernel
theorem dX12_insert_87 : decode cX12_insert 87 = .ok (.iconst 1, 1) := by decide +kernel
theorem dX12_insert_88 : decode cX12_insert 88 = .ok (.iadd, 1) := by decide +kernel
theorem dX12_insert_89 : decode cX12_insert 89 = .ok (.invokevirtual 154, 3) := by decide +kernel
theorem dX12_insert_92 : decode cX12_insert 92 = .ok (.return_, 1) := by decide +kernel
theorem dX12_remove_0 : decode cX12_remove 0 = .ok (.aload_n 0, 1) := by decide +kernel
theorem dX12_remove_1 : decode cX12_remove 1 = .ok (.iload_n 1, 1) := by decide +kernel
theorem dX12_remove_2 : decode cX12_remove 2 = .ok (.invokevirtual 162, 3) := by decide +kernel
theorem dX12_remove_5 : decode cX12_remove 5 = .ok (.iconst 1, 1) := by decide +kernel
theorem dX12_remove_6 : decode cX12_remove 6 = .ok (.isub, 1) := by decide +kernel
theorem dX12_remove_7 : decode cX12_remove 7 = .ok (.istore_n 3, 1) := by decide +kernel
theorem dX12_remove_8 : decode cX12_remove 8 = .ok (.iload_n 2, 1) := by decide +kernel
theorem dX12_remove_9 : decode cX12_remove 9 = .ok (.istore 4, 2) := by decide +kernel
theorem dX12_remove_11 : decode cX12_remove 11 = .ok (.iload 4, 2) := by decide +kernel
theorem dX12_remove_13 : decode cX12_remove 13 = .ok (.iload_n 3, 1) := by decide +kernel
theorem dX12_remove_14 : decode cX12_remove 14 = .ok (.if_icmp .ge 56, 3) := by decide +kernel
theorem dX12_remove_17 : decode cX12_remove 17 = .ok (.aload_n 0, 1) := by decide +kernel
theorem dX12_remove_18 : decode cX12_remove 18 = .ok (.iload_n 1, 1) := by decide +kernel
theorem dX12_remove_19 : decode cX12_remove 19 = .ok (.iload 4, 2) := by decide +kernel
theorem dX12_remove_21 : decode cX12_remove 21 = .ok (.aload_n 0, 1) := by decide +kernel
theorem dX12_remove_22 : decode cX12_remove 22 = .ok (.iload_n 1, 1) := by decide +kernel
theorem dX12_remove_23 : decode cX12_remove 23 = .ok (.iload 4, 2) := by decide +kernel
theorem dX12_remove_25 : decode cX12_remove 25 = .ok (.iconst 1, 1) := by decide +kernel
theorem dX12_remove_26 : decode cX12_remove 26 = .ok (.iadd, 1) := by decide +kernel
theorem dX12_remove_27 : decode cX12_remove 27 = .ok (.iconst 0, 1) := by decide +kernel
theorem dX12_remove_28 : decode cX12_remove 28 = .ok (.invokevirtual 173, 3) := by decide +kernel
theorem dX12_remove_31 : decode cX12_remove 31 = .ok (.aload_n 0, 1) := by decide +kernel
theorem dX12_remove_32 : decode cX12_remove 32 = .ok (.iload_n 1, 1) := by decide +kernel
theorem dX12_remove_33 : decode cX12_remove 33 = .ok (.iload 4, 2) := by decide +kernel
theorem dX12_remove_35 : decode cX12_remove 35 = .ok (.iconst 1, 1) := by decide +kernel
theorem dX12_remove_36 : decode cX12_remove 36 = .ok (.iadd, 1) := by decide +kernel
theorem dX12_remove_37 : decode cX12_remove 37 = .ok (.iconst 1, 1) := by decide +kernel
theorem dX12_remove_38 : decode cX12_remove 38 = .ok (.invokevirtual 173, 3) := by decide +kernel
theorem dX12_remove_41 : decode cX12_remove 41 = .ok (.aload_n 0, 1) := by decide +kernel
theorem dX12_remove_42 : decode cX12_remove 42 = .ok (.iload_n 1, 1) := by decide +kernel
theorem dX12_remove_43 : decode cX12_remove 43 = .ok (.iload 4, 2) := by decide +kernel
theorem dX12_remove_45 : decode cX12_remove 45 = .ok (.iconst 1, 1) := by decide +kernel
theorem dX12_remove_46 : decode cX12_remove 46 = .ok (.iadd, 1) := by decide +kernel
theorem dX12_remove_47 : decode cX12_remove 47 = .ok (.iconst 2, 1) := by decide +kernel
theorem dX12_remove_48 : decode cX12_remove 48 = .ok (.invokevirtual 173, 3) := by decide +kernel
theorem dX12_remove_51 : decode cX12_remove 51 = .ok (.aload_n 0, 1) := by decide +kernel
theorem dX12_remove_52 : decode cX12_remove 52 = .ok (.iload_n 1, 1) := by decide +kernel
theorem dX12_remove_53 : decode cX12_remove 53 = .ok (.iload 4, 2) := by decide +kernel
theorem dX12_remove_55 : decode cX12_remove 55 = .ok (.iconst 1, 1) := by decide +kernel
theorem dX12_remove_56 : decode cX12_remove 56 = .ok (.iadd, 1) := by decide +kernel
theorem dX12_remove_57 : decode cX12_remove 57 = .ok (.iconst 3, 1) := by decide +kernel
theorem dX12_remove_58 : decode cX12_remove 58 = .ok (.invokevirtual 173, 3) := by decide +kernel
theorem dX12_remove_61 : decode cX12_remove 61 = .ok (.invokevirtual 177, 3) := by decide +kernel
theorem dX12_remove_64 : decode cX12_remove 64 = .ok (.iinc 4 1, 3) := by decide +kernel
theorem dX12_remove_67 : decode cX12_remove 67 = .ok (.goto (-56), 3) := by decide +kernel
theorem dX12_remove_70 : decode cX12_remove 70 = .ok (.aload_n 0, 1) := by decide +kernel
theorem dX12_remove_71 : decode cX12_remove 71 = .ok (.iload_n 1, 1) := by decide +kernel
theorem dX12_remove_72 : decode cX12_remove 72 = .ok (.iload_n 3, 1) := by decide +kernel
theorem dX12_remove_73 : decode cX12_remove 73 = .ok (.iconst 0, 1) := by decide +kernel
theorem dX12_remove_74 : decode cX12_remove 74 = .ok (.iconst 0, 1) := by decide +kernel
theorem dX12_remove_75 : decode cX12_remove 75 = .ok (.iconst 0, 1) := by decide +kernel
theorem dX12_remove_76 : decode cX12_remove 76 = .ok (.iconst 0, 1) := by decide +kernel
theorem dX12_remove_77 : decode cX12_remove 77 = .ok (.invokevirtual 177, 3) := by decide +kernel
theorem dX12_remove_80 : decode cX12_remove 80 = .ok (.aload_n 0, 1) := by decide +kernel
theorem dX12_remove_81 : decode cX12_remove 81 = .ok (.iload_n 1, 1) := by decide +kernel
theorem dX12_remove_82 : decode cX12_remove 82 = .ok (.iconst 0, 1) := by decide +kernel
theorem dX12_remove_83 : decode cX12_remove 83 = .ok (.iload_n 3, 1) := by decide +kernel
theorem dX12_remove_84 : decode cX12_remove 84 = .ok (.invokevirtual 154, 3) := by decide +kernel
theorem dX12_remove_87 : decode cX12_remove 87 = .ok (.return_, 1) := by decide +kernel
theorem dX12_chosen_0 : decode cX12_chosen 0 = .ok (.iconst (-1), 1) := by decide +kernel
theorem dX12_chosen_1 : decode cX12_chosen 1 = .ok (.istore_n 3, 1) := by decide +kernel
theorem dX12_chosen_2 : decode cX12_chosen 2 = .ok (.iconst 0, 1) := by decide +kernel
theorem dX12_chosen_3 : decode cX12_chosen 3 = .ok (.istore 4, 2) := by decide +kernel
theorem dX12_chosen_5 : decode cX12_chosen 5 = .ok (.iconst 0, 1) := by decide +kernel
theorem dX12_chosen_6 : decode cX12_chosen 6 = .ok (.istore 5, 2) := by decide +kernel
theorem dX12_chosen_8 : decode cX12_chosen 8 = .ok (.iconst 0, 1) := by decide +kernel
theorem dX12_chosen_9 : decode cX12_chosen 9 = .ok (.istore 6, 2) := by decide +kernel
theorem dX12_chosen_11 : decode cX12_chosen 11 = .ok (.iload 6, 2) := by decide +kernel
theorem dX12_chosen_13 : decode cX12_chosen 13 = .ok (.aload_n 0, 1) := by decide +kernel
theorem dX12_chosen_14 : decode cX12_chosen 14 = .ok (.iload_n 1, 1) := by decide +kernel
theorem dX12_chosen_15 : decode cX12_chosen 15 = .ok (.invokevirtual 162, 3) := by decide +kernel
theorem dX12_chosen_18 : decode cX12_chosen 18 = .ok (.if_icmp .ge 106, 3) := by decide +kernel
theorem dX12_chosen_21 : decode cX12_chosen 21 = .ok (.aload_n 0, 1) := by decide +kernel
theorem dX12_chosen_22 : decode cX12_chosen 22 = .ok (.aload_n 0, 1) := by decide +kernel
theorem dX12_chosen_23 : decode cX12_chosen 23 = .ok (.iload_n 1, 1) := by decide +kernel
theorem dX12_chosen_24 : decode cX12_chosen 24 = .ok (.iload 6, 2) := by decide +kernel
theorem dX12_chosen_26 : decode cX12_chosen 26 = .ok (.iconst 0, 1) := by decide +kernel
theorem dX12_chosen_27 : decode cX12_chosen 27 = .ok (.invokevirtual 173, 3) := by decide +kernel
theorem dX12_chosen_30 : decode cX12_chosen 30 = .ok (.iload_n 2, 1) := by decide +kernel
theorem dX12_chosen_31 : decode cX12_chosen 31 = .ok (.invokevirtual 181, 3) := by decide +kernel
theorem dX12_chosen_34 : decode cX12_chosen 34 = .ok (.istore 7, 2) := by decide +kernel
theorem dX12_chosen_36 : decode cX12_chosen 36 = .ok (.iload 7, 2) := by decide +kernel
theorem dX12_chosen_38 : decode cX12_chosen 38 = .ok (.aload_n 0, 1) := by decide +kernel
theorem dX12_chosen_39 : decode cX12_chosen 39 = .ok (.iload_n 1, 1) := by decide +kernel
theorem dX12_chosen_40 : decode cX12_chosen 40 = .ok (.iload 6, 2) := by decide +kernel
theorem dX12_chosen_42 : decode cX12_chosen 42 = .ok (.iconst 1, 1) := by decide +kernel
theorem dX12_chosen_43 : decode cX12_chosen 43 = .ok (.invokevirtual 173, 3) := by decide +kernel
theorem dX12_chosen_46 : decode cX12_chosen 46 = .ok (.isub, 1) := by decide +kernel
theorem dX12_chosen_47 : decode cX12_chosen 47 = .ok (.istore 8, 2) := by decide +kernel
theorem dX12_chosen_49 : decode cX12_chosen 49 = .ok (.iload 8, 2) := by decide +kernel
theorem dX12_chosen_51 : decode cX12_chosen 51 = .ok (.ifCond .gt 7, 3) := by decide +kernel
theorem dX12_chosen_54 : decode cX12_chosen 54 = .ok (.iconst 1, 1) := by decide +kernel
theorem dX12_chosen_55 : decode cX12_chosen 55 = .ok (.goto 4, 3) := by decide +kernel
theorem dX12_chosen_58 : decode cX12_chosen 58 = .ok (.iconst 0, 1) := by decide +kernel
theorem dX12_chosen_59 : decode cX12_chosen 59 = .ok (.istore 9, 2) := by decide +kernel
theorem dX12_chosen_61 : decode cX12_chosen 61 = .ok (.iload 9, 2) := by decide +kernel
theorem dX12_chosen_63 : decode cX12_chosen 63 = .ok (.ifCond .eq 8, 3) := by decide +kernel
theorem dX12_chosen_66 : decode cX12_chosen 66 = .ok (.iload 7, 2) := by decide +kernel
theorem dX12_chosen_68 : decode cX12_chosen 68 = .ok (.goto 5, 3) := by decide +kernel
theorem dX12_chosen_71 : decode cX12_chosen 71 = .ok (.iload 8, 2) := by decide +kernel
theorem dX12_chosen_73 : decode cX12_chosen 73 = .ok (.istore 10, 2) := by decide +kernel
theorem dX12_chosen_75 : decode cX12_chosen 75 = .ok (.iload_n 3, 1) := by decide +kernel
theorem dX12_chosen_76 : decode cX12_chosen 76 = .ok (.iconst (-1), 1) := by decide +kernel
theorem dX12_chosen_77 : decode cX12_chosen 77 = .ok (.if_icmp .eq 30, 3) := by decide +kernel
theorem dX12_chosen_80 : decode cX12_chosen 80 = .ok (.iload 5, 2) := by decide +kernel
theorem dX12_chosen_82 : decode cX12_chosen 82 = .ok (.ifCond .eq 8, 3) := by decide +kernel
theorem dX12_chosen_85 : decode cX12_chosen 85 = .ok (.iload 9, 2) := by decide +kernel
theorem dX12_chosen_87 : decode cX12_chosen 87 = .ok (.ifCond .eq 31, 3) := by decide +kernel
theorem dX12_chosen_90 : decode cX12_chosen 90 = .ok (.iload 5, 2) := by decide +kernel
theorem dX12_chosen_92 : decode cX12_chosen 92 = .ok (.iload 9, 2) := by decide +kernel
theorem dX12_chosen_94 : decode cX12_chosen 94 = .ok (.if_icmp .ne 13, 3) := by decide +kernel
theorem dX12_chosen_97 : decode cX12_chosen 97 = .ok (.iload 10, 2) := by decide +kernel
theorem dX12_chosen_99 : decode cX12_chosen 99 = .ok (.iload 4, 2) := by decide +kernel
theorem dX12_chosen_101 : decode cX12_chosen 101 = .ok (.if_icmp .lt 6, 3) := by decide +kernel
theorem dX12_chosen_104 : decode cX12_chosen 104 = .ok (.goto 14, 3) := by decide +kernel
theorem dX12_chosen_107 : decode cX12_chosen 107 = .ok (.iload 6, 2) := by decide +kernel
theorem dX12_chosen_109 : decode cX12_chosen 109 = .ok (.istore_n 3, 1) := by decide +kernel
theorem dX12_chosen_110 : decode cX12_chosen 110 = .ok (.iload 10, 2) := by decide +kernel
theorem dX12_chosen_112 : decode cX12_chosen 112 = .ok (.istore 4, 2) := by decide +kernel
theorem dX12_chosen_114 : decode cX12_chosen 114 = .ok (.iload 9, 2) := by decide +kernel
theorem dX12_chosen_116 : decode cX12_chosen 116 = .ok (.istore 5, 2) := by decide +kernel
theorem dX12_chosen_118 : decode cX12_chosen 118 = .ok (.iinc 6 1, 3) := by decide +kernel
theorem dX12_chosen_121 : decode cX12_chosen 121 = .ok (.goto (-110), 3) := by decide +kernel
theorem dX12_chosen_124 : decode cX12_chosen 124 = .ok (.iload_n 3, 1) := by decide +kernel
theorem dX12_chosen_125 : decode cX12_chosen 125 = .ok (.ireturn, 1) := by decide +kernel
theorem dX12_putNow_0 : decode cX12_putNow 0 = .ok (.aload_n 0, 1) := by decide +kernel
theorem dX12_putNow_1 : decode cX12_putNow 1 = .ok (.getfield 8, 3) := by decide +kernel
theorem dX12_putNow_4 : decode cX12_putNow 4 = .ok (.iconst 2, 1) := by decide +kernel
theorem dX12_putNow_5 : decode cX12_putNow 5 = .ok (.iaload, 1) := by decide +kernel
theorem dX12_putNow_6 : decode cX12_putNow 6 = .ok (.istore_n 2, 1) := by decide +kernel
theorem dX12_putNow_7 : decode cX12_putNow 7 = .ok (.iconst 0, 1) := by decide +kernel
theorem dX12_putNow_8 : decode cX12_putNow 8 = .ok (.istore_n 3, 1) := by decide +kernel
theorem dX12_putNow_9 : decode cX12_putNow 9 = .ok (.aload_n 0, 1) := by decide +kernel
theorem dX12_putNow_10 : decode cX12_putNow 10 = .ok (.iload_n 2, 1) := by decide +kernel
theorem dX12_putNow_11 : decode cX12_putNow 11 = .ok (.invokevirtual 184, 3) := by decide +kernel
theorem dX12_putNow_14 : decode cX12_putNow 14 = .ok (.ifCond .ne 79, 3) := by decide +kernel
theorem dX12_putNow_17 : decode cX12_putNow 17 = .ok (.aload_n 0, 1) := by decide +kernel
theorem dX12_putNow_18 : decode cX12_putNow 18 = .ok (.iload_n 2, 1) := by decide +kernel
theorem dX12_putNow_19 : decode cX12_putNow 19 = .ok (.iload_n 1, 1) := by decide +kernel
theorem dX12_putNow_20 : decode cX12_putNow 20 = .ok (.invokevirtual 187, 3) := by decide +kernel
theorem dX12_putNow_23 : decode cX12_putNow 23 = .ok (.istore 4, 2) := by decide +kernel
theorem dX12_putNow_25 : decode cX12_putNow 25 = .ok (.aload_n 0, 1) := by decide +kernel
theorem dX12_putNow_26 : decode cX12_putNow 26 = .ok (.aload_n 0, 1) := by decide +kernel
theorem dX12_putNow_27 : decode cX12_putNow 27 = .ok (.iload_n 2, 1) := by decide +kernel
theorem dX12_putNow_28 : decode cX12_putNow 28 = .ok (.iload 4, 2) := by decide +kernel
theorem dX12_putNow_30 : decode cX12_putNow 30 = .ok (.iconst 0, 1) := by decide +kernel
theorem dX12_putNow_31 : decode cX12_putNow 31 = .ok (.invokevirtual 173, 3) := by decide +kernel
theorem dX12_putNow_34 : decode cX12_putNow 34 = .ok (.iload_n 1, 1) := by decide +kernel
theorem dX12_putNow_35 : decode cX12_putNow 35 = .ok (.invokevirtual 181, 3) := by decide +kernel
theorem dX12_putNow_38 : decode cX12_putNow 38 = .ok (.istore 5, 2) := by decide +kernel
theorem dX12_putNow_40 : decode cX12_putNow 40 = .ok (.iload 5, 2) := by decide +kernel
theorem dX12_putNow_42 : decode cX12_putNow 42 = .ok (.aload_n 0, 1) := by decide +kernel
theorem dX12_putNow_43 : decode cX12_putNow 43 = .ok (.iload_n 2, 1) := by decide +kernel
theorem dX12_putNow_44 : decode cX12_putNow 44 = .ok (.iload 4, 2) := by decide +kernel
theorem dX12_putNow_46 : decode cX12_putNow 46 = .ok (.iconst 1, 1) := by decide +kernel
theorem dX12_putNow_47 : decode cX12_putNow 47 = .ok (.invokevirtual 173, 3) := by decide +kernel
theorem dX12_putNow_50 : decode cX12_putNow 50 = .ok (.if_icmp .le 13, 3) := by decide +kernel
theorem dX12_putNow_53 : decode cX12_putNow 53 = .ok (.aload_n 0, 1) := by decide +kernel
theorem dX12_putNow_54 : decode cX12_putNow 54 = .ok (.iload_n 2, 1) := by decide +kernel
theorem dX12_putNow_55 : decode cX12_putNow 55 = .ok (.iload 4, 2) := by decide +kernel
theorem dX12_putNow_57 : decode cX12_putNow 57 = .ok (.iconst 1, 1) := by decide +kernel
theorem dX12_putNow_58 : decode cX12_putNow 58 = .ok (.iload 5, 2) := by decide +kernel
theorem dX12_putNow_60 : decode cX12_putNow 60 = .ok (.invokevirtual 158, 3) := by decide +kernel
theorem dX12_putNow_63 : decode cX12_putNow 63 = .ok (.aload_n 0, 1) := by decide +kernel
theorem dX12_putNow_64 : decode cX12_putNow 64 = .ok (.getfield 23, 3) := by decide +kernel
theorem dX12_putNow_67 : decode cX12_putNow 67 = .ok (.iload_n 3, 1) := by decide +kernel
theorem dX12_putNow_68 : decode cX12_putNow 68 = .ok (.iload_n 2, 1) := by decide +kernel
theorem dX12_putNow_69 : decode cX12_putNow 69 = .ok (.iastore, 1) := by decide +kernel
theorem dX12_putNow_70 : decode cX12_putNow 70 = .ok (.aload_n 0, 1) := by decide +kernel
theorem dX12_putNow_71 : decode cX12_putNow 71 = .ok (.getfield 26, 3) := by decide +kernel
theorem dX12_putNow_74 : decode cX12_putNow 74 = .ok (.iload_n 3, 1) := by decide +kernel
theorem dX12_putNow_75 : decode cX12_putNow 75 = .ok (.iload 4, 2) := by decide +kernel
theorem dX12_putNow_77 : decode cX12_putNow 77 = .ok (.iastore, 1) := by decide +kernel
theorem dX12_putNow_78 : decode cX12_putNow 78 = .ok (.iinc 3 1, 3) := by decide +kernel
theorem dX12_putNow_81 : decode cX12_putNow 81 = .ok (.aload_n 0, 1) := by decide +kernel
theorem dX12_putNow_82 : decode cX12_putNow 82 = .ok (.iload_n 2, 1) := by decide +kernel
theorem dX12_putNow_83 : decode cX12_putNow 83 = .ok (.iload 4, 2) := by decide +kernel
theorem dX12_putNow_85 : decode cX12_putNow 85 = .ok (.iconst 3, 1) := by decide +kernel
theorem dX12_putNow_86 : decode cX12_putNow 86 = .ok (.invokevirtual 173, 3) := by decide +kernel
theorem dX12_putNow_89 : decode cX12_putNow 89 = .ok (.istore_n 2, 1) := by decide +kernel
theorem dX12_putNow_90 : decode cX12_putNow 90 = .ok (.goto (-81), 3) := by decide +kernel
theorem dX12_putNow_93 : decode cX12_putNow 93 = .ok (.iload_n 3, 1) := by decide +kernel
theorem dX12_putNow_94 : decode cX12_putNow 94 = .ok (.ifCond .ne 7, 3) := by decide +kernel
theorem dX12_putNow_97 : decode cX12_putNow 97 = .ok (.iconst 0, 1) := by decide +kernel
theorem dX12_putNow_98 : decode cX12_putNow 98 = .ok (.goto 29, 3) := by decide +kernel
theorem dX12_putNow_101 : decode cX12_putNow 101 = .ok (.aload_n 0, 1) := by decide +kernel
theorem dX12_putNow_102 : decode cX12_putNow 102 = .ok (.aload_n 0, 1) := by decide +kernel
theorem dX12_putNow_103 : decode cX12_putNow 103 = .ok (.aload_n 0, 1) := by decide +kernel
theorem dX12_putNow_104 : decode cX12_putNow 104 = .ok (.getfield 23, 3) := by decide +kernel
theorem dX12_putNow_107 : decode cX12_putNow 107 = .ok (.iload_n 3, 1) := by decide +kernel
theorem dX12_putNow_108 : decode cX12_putNow 108 = .ok (.iconst 1, 1) := by decide +kernel
theorem dX12_putNow_109 : decode cX12_putNow 109 = .ok (.isub, 1) := by decide +kernel
theorem dX12_putNow_110 : decode cX12_putNow 110 = .ok (.iaload, 1) := by decide +kernel
theorem dX12_putNow_111 : decode cX12_putNow 111 = .ok (.aload_n 0, 1) := by decide +kernel
theorem dX12_putNow_112 : decode cX12_putNow 112 = .ok (.getfield 26, 3) := by decide +kernel
theorem dX12_putNow_115 : decode cX12_putNow 115 = .ok (.iload_n 3, 1) := by decide +kernel
theorem dX12_putNow_116 : decode cX12_putNow 116 = .ok (.iconst 1, 1) := by decide +kernel
theorem dX12_putNow_117 : decode cX12_putNow 117 = .ok (.isub, 1) := by decide +kernel
theorem dX12_putNow_118 : decode cX12_putNow 118 = .ok (.iaload, 1) := by decide +kernel
theorem dX12_putNow_119 : decode cX12_putNow 119 = .ok (.iconst 0, 1) := by decide +kernel
theorem dX12_putNow_120 : decode cX12_putNow 120 = .ok (.invokevirtual 173, 3) := by decide +kernel
theorem dX12_putNow_123 : decode cX12_putNow 123 = .ok (.iload_n 1, 1) := by decide +kernel
theorem dX12_putNow_124 : decode cX12_putNow 124 = .ok (.invokevirtual 181, 3) := by decide +kernel
theorem dX12_putNow_127 : decode cX12_putNow 127 = .ok (.istore 4, 2) := by decide +kernel
theorem dX12_putNow_129 : decode cX12_putNow 129 = .ok (.aload_n 0, 1) := by decide +kernel
theorem dX12_putNow_130 : decode cX12_putNow 130 = .ok (.iload_n 2, 1) := by decide +kernel
theorem dX12_putNow_131 : decode cX12_putNow 131 = .ok (.aload_n 0, 1) := by decide +kernel
theorem dX12_putNow_132 : decode cX12_putNow 132 = .ok (.iload_n 2, 1) := by decide +kernel
theorem dX12_putNow_133 : decode cX12_putNow 133 = .ok (.invokevirtual 162, 3) := by decide +kernel
theorem dX12_putNow_136 : decode cX12_putNow 136 = .ok (.iload_n 1, 1) := by decide +kernel
theorem dX12_putNow_137 : decode cX12_putNow 137 = .ok (.iconst 0, 1) := by decide +kernel
theorem dX12_putNow_138 : decode cX12_putNow 138 = .ok (.iload 4, 2) := by decide +kernel
theorem dX12_putNow_140 : decode cX12_putNow 140 = .ok (.iconst (-1), 1) := by decide +kernel
theorem dX12_putNow_141 : decode cX12_putNow 141 = .ok (.invokevirtual 190, 3) := by decide +kernel
theorem dX12_putNow_144 : decode cX12_putNow 144 = .ok (.aload_n 0, 1) := by decide +kernel
theorem dX12_putNow_145 : decode cX12_putNow 145 = .ok (.iload_n 2, 1) := by decide +kernel
theorem dX12_putNow_146 : decode cX12_putNow 146 = .ok (.invokevirtual 162, 3) := by decide +kernel
theorem dX12_putNow_149 : decode cX12_putNow 149 = .ok (.aload_n 0, 1) := by decide +kernel
theorem dX12_putNow_150 : decode cX12_putNow 150 = .ok (.getfield 8, 3) := by decide +kernel
theorem dX12_putNow_153 : decode cX12_putNow 153 = .ok (.iconst 4, 1) := by decide +kernel
theorem dX12_putNow_154 : decode cX12_putNow 154 = .ok (.iaload, 1) := by decide +kernel
theorem dX12_putNow_155 : decode cX12_putNow 155 = .ok (.if_icmp .le 102, 3) := by decide +kernel
theorem dX12_putNow_158 : decode cX12_putNow 158 = .ok (.iload_n 3, 1) := by decide +kernel
theorem dX12_putNow_159 : decode cX12_putNow 159 = .ok (.ifCond .ne 39, 3) := by decide +kernel
theorem dX12_putNow_162 : decode cX12_putNow 162 = .ok (.aload_n 0, 1) := by decide +kernel
theorem dX12_putNow_163 : decode cX12_putNow 163 = .ok (.iconst 0, 1) := by decide +kernel
theorem dX12_putNow_164 : decode cX12_putNow 164 = .ok (.invokevirtual 169, 3) := by decide +kernel
theorem dX12_putNow_167 : decode cX12_putNow 167 = .ok (.istore 5, 2) := by decide +kernel
theorem dX12_putNow_169 : decode cX12_putNow 169 = .ok (.aload_n 0, 1) := by decide +kernel
theorem dX12_putNow_170 : decode cX12_putNow 170 = .ok (.iload 5, 2) := by decide +kernel
theorem dX12_putNow_172 : decode cX12_putNow 172 = .ok (.iconst 0, 1) := by decide +kernel
theorem dX12_putNow_173 : decode cX12_putNow 173 = .ok (.iconst 0, 1) := by decide +kernel
theorem dX12_putNow_174 : decode cX12_putNow 174 = .ok (.iconst 0, 1) := by decide +kernel
theorem dX12_putNow_175 : decode cX12_putNow 175 = .ok (.iconst 0, 1) := by decide +kernel
theorem dX12_putNow_176 : decode cX12_putNow 176 = .ok (.iload_n 2, 1) := by decide +kernel
theorem dX12_putNow_177 : decode cX12_putNow 177 = .ok (.invokevirtual 190, 3) := by decide +kernel
theorem dX12_putNow_180 : decode cX12_putNow 180 = .ok (.aload_n 0, 1) := by decide +kernel
theorem dX12_putNow_181 : decode cX12_putNow 181 = .ok (.getfield 8, 3) := by decide +kernel
theorem dX12_putNow_184 : decode cX12_putNow 184 = .ok (.iconst 2, 1) := by decide +kernel
theorem dX12_putNow_185 : decode cX12_putNow 185 = .ok (.iload 5, 2) := by decide +kernel
theorem dX12_putNow_187 : decode cX12_putNow 187 = .ok (.iastore, 1) := by decide +kernel
theorem dX12_putNow_188 : decode cX12_putNow 188 = .ok (.aload_n 0, 1) := by decide +kernel
theorem dX12_putNow_189 : decode cX12_putNow 189 = .ok (.iload_n 2, 1) := by decide +kernel
theorem dX12_putNow_190 : decode cX12_putNow 190 = .ok (.iload 5, 2) := by decide +kernel
theorem dX12_putNow_192 : decode cX12_putNow 192 = .ok (.iconst 0, 1) := by decide +kernel
theorem dX12_putNow_193 : decode cX12_putNow 193 = .ok (.iconst (-1), 1) := by decide +kernel
theorem dX12_putNow_194 : decode cX12_putNow 194 = .ok (.invokevirtual 193, 3) := by decide +kernel
theorem dX12_putNow_197 : decode cX12_putNow 197 = .ok (.return_, 1) := by decide +kernel
theorem dX12_putNow_198 : decode cX12_putNow 198 = .ok (.iinc 3 (-1), 3) := by decide +kernel
theorem dX12_putNow_201 : decode cX12_putNow 201 = .ok (.aload_n 0, 1) := by decide +kernel
theorem dX12_putNow_202 : decode cX12_putNow 202 = .ok (.iload_n 2, 1) := by decide +kernel
theorem dX12_putNow_203 : decode cX12_putNow 203 = .ok (.aload_n 0, 1) := by decide +kernel
theorem dX12_putNow_204 : decode cX12_putNow 204 = .ok (.getfield 23, 3) := by decide +kernel
theorem dX12_putNow_207 : decode cX12_putNow 207 = .ok (.iload_n 3, 1) := by decide +kernel
theorem dX12_putNow_208 : decode cX12_putNow 208 = .ok (.iaload, 1) := by decide +kernel
theorem dX12_putNow_209 : decode cX12_putNow 209 = .ok (.aload_n 0, 1) := by decide +kernel
theorem dX12_putNow_210 : decode cX12_putNow 210 = .ok (.getfield 26, 3) := by decide +kernel
theorem dX12_putNow_213 : decode cX12_putNow 213 = .ok (.iload_n 3, 1) := by decide +kernel
theorem dX12_putNow_214 : decode cX12_putNow 214 = .ok (.iaload, 1) := by decide +kernel
theorem dX12_putNow_215 : decode cX12_putNow 215 = .ok (.iload_n 3, 1) := by decide +kernel
theorem dX12_putNow_216 : decode cX12_putNow 216 = .ok (.ifCond .ne 7, 3) := by decide +kernel
theorem dX12_putNow_219 : decode cX12_putNow 219 = .ok (.iconst (-1), 1) := by decide +kernel
theorem dX12_putNow_220 : decode cX12_putNow 220 = .ok (.goto 24, 3) := by decide +kernel
theorem dX12_putNow_223 : decode cX12_putNow 223 = .ok (.aload_n 0, 1) := by decide +kernel
theorem dX12_putNow_224 : decode cX12_putNow 224 = .ok (.aload_n 0, 1) := by decide +kernel
theorem dX12_putNow_225 : decode cX12_putNow 225 = .ok (.getfield 23, 3) := by decide +kernel
theorem dX12_putNow_228 : decode cX12_putNow 228 = .ok (.iload_n 3, 1) := by decide +kernel
theorem dX12_putNow_229 : decode cX12_putNow 229 = .ok (.iconst 1, 1) := by decide +kernel
theorem dX12_putNow_230 : decode cX12_putNow 230 = .ok (.isub, 1) := by decide +kernel
theorem dX12_putNow_231 : decode cX12_putNow 231 = .ok (.iaload, 1) := by decide +kernel
theorem dX12_putNow_232 : decode cX12_putNow 232 = .ok (.aload_n 0, 1) := by decide +kernel
theorem dX12_putNow_233 : decode cX12_putNow 233 = .ok (.getfield 26, 3) := by decide +kernel
theorem dX12_putNow_236 : decode cX12_putNow 236 = .ok (.iload_n 3, 1) := by decide +kernel
theorem dX12_putNow_237 : decode cX12_putNow 237 = .ok (.iconst 1, 1) := by decide +kernel
theorem dX12_putNow_238 : decode cX12_putNow 238 = .ok (.isub, 1) := by decide +kernel
theorem dX12_putNow_239 : decode cX12_putNow 239 = .ok (.iaload, 1) := by decide +kernel
theorem dX12_putNow_240 : decode cX12_putNow 240 = .ok (.iconst 0, 1) := by decide +kernel
theorem dX12_putNow_241 : decode cX12_putNow 241 = .ok (.invokevirtual 173, 3) := by decide +kernel
theorem dX12_putNow_244 : decode cX12_putNow 244 = .ok (.invokevirtual 193, 3) := by decide +kernel
theorem dX12_putNow_247 : decode cX12_putNow 247 = .ok (.aload_n 0, 1) := by decide +kernel
theorem dX12_putNow_248 : decode cX12_putNow 248 = .ok (.getfield 23, 3) := by decide +kernel
theorem dX12_putNow_251 : decode cX12_putNow 251 = .ok (.iload_n 3, 1) := by decide +kernel
theorem dX12_putNow_252 : decode cX12_putNow 252 = .ok (.iaload, 1) := by decide +kernel
theorem dX12_putNow_253 : decode cX12_putNow 253 = .ok (.istore_n 2, 1) := by decide +kernel
theorem dX12_putNow_254 : decode cX12_putNow 254 = .ok (.goto (-110), 3) := by decide +kernel
theorem dX12_putNow_257 : decode cX12_putNow 257 = .ok (.return_, 1) := by decide +kernel
theorem dX12_part_0 : decode cX12_part 0 = .ok (.aload_n 0, 1) := by decide +kernel
theorem dX12_part_1 : decode cX12_part 1 = .ok (.aload_n 0, 1) := by decide +kernel
theorem dX12_part_2 : decode cX12_part 2 = .ok (.iload_n 1, 1) := by decide +kernel
theorem dX12_part_3 : decode cX12_part 3 = .ok (.iload_n 2, 1) := by decide +kernel
theorem dX12_part_4 : decode cX12_part 4 = .ok (.iconst 1, 1) := by decide +kernel
theorem dX12_part_5 : decode cX12_part 5 = .ok (.invokevirtual 173, 3) := by decide +kernel
theorem dX12_part_8 : decode cX12_part 8 = .ok (.putfield 196, 3) := by decide +kernel
theorem dX12_part_11 : decode cX12_part 11 = .ok (.aload_n 0, 1) := by decide +kernel
theorem dX12_part_12 : decode cX12_part 12 = .ok (.aload_n 0, 1) := by decide +kernel
theorem dX12_part_13 : decode cX12_part 13 = .ok (.iload_n 1, 1) := by decide +kernel
theorem dX12_part_14 : decode cX12_part 14 = .ok (.iload_n 3, 1) := by decide +kernel
theorem dX12_part_15 : decode cX12_part 15 = .ok (.iconst 1, 1) := by decide +kernel
theorem dX12_part_16 : decode cX12_part 16 = .ok (.invokevirtual 173, 3) := by decide +kernel
theorem dX12_part_19 : decode cX12_part 19 = .ok (.putfield 199, 3) := by decide +kernel
theorem dX12_part_22 : decode cX12_part 22 = .ok (.iconst 0, 1) := by decide +kernel
theorem dX12_part_23 : decode cX12_part 23 = .ok (.istore 4, 2) := by decide +kernel
theorem dX12_part_25 : decode cX12_part 25 = .ok (.iload 4, 2) := by decide +kernel
theorem dX12_part_27 : decode cX12_part 27 = .ok (.aload_n 0, 1) := by decide +kernel
theorem dX12_part_28 : decode cX12_part 28 = .ok (.iload_n 1, 1) := by decide +kernel
theorem dX12_part_29 : decode cX12_part 29 = .ok (.invokevirtual 162, 3) := by decide +kernel
theorem dX12_part_32 : decode cX12_part 32 = .ok (.if_icmp .ge 172, 3) := by decide +kernel
theorem dX12_part_35 : decode cX12_part 35 = .ok (.aload_n 0, 1) := by decide +kernel
theorem dX12_part_36 : decode cX12_part 36 = .ok (.getfield 29, 3) := by decide +kernel
theorem dX12_part_39 : decode cX12_part 39 = .ok (.iload 4, 2) := by decide +kernel
theorem dX12_part_41 : decode cX12_part 41 = .ok (.iload 4, 2) := by decide +kernel
theorem dX12_part_43 : decode cX12_part 43 = .ok (.iload_n 3, 1) := by decide +kernel
theorem dX12_part_44 : decode cX12_part 44 = .ok (.if_icmp .ne 7, 3) := by decide +kernel
theorem dX12_part_47 : decode cX12_part 47 = .ok (.iconst 1, 1) := by decide +kernel
theorem dX12_part_48 : decode cX12_part 48 = .ok (.goto 4, 3) := by decide +kernel
theorem dX12_part_51 : decode cX12_part 51 = .ok (.iconst 0, 1) := by decide +kernel
theorem dX12_part_52 : decode cX12_part 52 = .ok (.bastore, 1) := by decide +kernel
theorem dX12_part_53 : decode cX12_part 53 = .ok (.iload 4, 2) := by decide +kernel
theorem dX12_part_55 : decode cX12_part 55 = .ok (.iload_n 2, 1) := by decide +kernel
theorem dX12_part_56 : decode cX12_part 56 = .ok (.if_icmp .eq 142, 3) := by decide +kernel
theorem dX12_part_59 : decode cX12_part 59 = .ok (.iload 4, 2) := by decide +kernel
theorem dX12_part_61 : decode cX12_part 61 = .ok (.iload_n 3, 1) := by decide +kernel
theorem dX12_part_62 : decode cX12_part 62 = .ok (.if_icmp .ne 6, 3) := by decide +kernel
theorem dX12_part_65 : decode cX12_part 65 = .ok (.goto 133, 3) := by decide +kernel
theorem dX12_part_68 : decode cX12_part 68 = .ok (.aload_n 0, 1) := by decide +kernel
theorem dX12_part_69 : decode cX12_part 69 = .ok (.aload_n 0, 1) := by decide +kernel
theorem dX12_part_70 : decode cX12_part 70 = .ok (.iload_n 1, 1) := by decide +kernel
theorem dX12_part_71 : decode cX12_part 71 = .ok (.iload_n 2, 1) := by decide +kernel
theorem dX12_part_72 : decode cX12_part 72 = .ok (.iconst 0, 1) := by decide +kernel
theorem dX12_part_73 : decode cX12_part 73 = .ok (.invokevirtual 173, 3) := by decide +kernel
theorem dX12_part_76 : decode cX12_part 76 = .ok (.aload_n 0, 1) := by decide +kernel
theorem dX12_part_77 : decode cX12_part 77 = .ok (.iload_n 1, 1) := by decide +kernel
theorem dX12_part_78 : decode cX12_part 78 = .ok (.iload 4, 2) := by decide +kernel
theorem dX12_part_80 : decode cX12_part 80 = .ok (.iconst 0, 1) := by decide +kernel
theorem dX12_part_81 : decode cX12_part 81 = .ok (.invokevirtual 173, 3) := by decide +kernel
theorem dX12_part_84 : decode cX12_part 84 = .ok (.invokevirtual 181, 3) := by decide +kernel
theorem dX12_part_87 : decode cX12_part 87 = .ok (.istore 5, 2) := by decide +kernel
theorem dX12_part_89 : decode cX12_part 89 = .ok (.aload_n 0, 1) := by decide +kernel
theorem dX12_part_90 : decode cX12_part 90 = .ok (.aload_n 0, 1) := by decide +kernel
theorem dX12_part_91 : decode cX12_part 91 = .ok (.iload_n 1, 1) := by decide +kernel
theorem dX12_part_92 : decode cX12_part 92 = .ok (.iload_n 3, 1) := by decide +kernel
theorem dX12_part_93 : decode cX12_part 93 = .ok (.iconst 0, 1) := by decide +kernel
theorem dX12_part_94 : decode cX12_part 94 = .ok (.invokevirtual 173, 3) := by decide +kernel
theorem dX12_part_97 : decode cX12_part 97 = .ok (.aload_n 0, 1) := by decide +kernel
theorem dX12_part_98 : decode cX12_part 98 = .ok (.iload_n 1, 1) := by decide +kernel
theorem dX12_part_99 : decode cX12_part 99 = .ok (.iload 4, 2) := by decide +kernel
theorem dX12_part_101 : decode cX12_part 101 = .ok (.iconst 0, 1) := by decide +kernel
theorem dX12_part_102 : decode cX12_part 102 = .ok (.invokevirtual 173, 3) := by decide +kernel
theorem dX12_part_105 : decode cX12_part 105 = .ok (.invokevirtual 181, 3) := by decide +kernel
theorem dX12_part_108 : decode cX12_part 108 = .ok (.istore 6, 2) := by decide +kernel
theorem dX12_part_110 : decode cX12_part 110 = .ok (.aload_n 0, 1) := by decide +kernel
theorem dX12_part_111 : decode cX12_part 111 = .ok (.getfield 29, 3) := by decide +kernel
theorem dX12_part_114 : decode cX12_part 114 = .ok (.iload 4, 2) := by decide +kernel
theorem dX12_part_116 : decode cX12_part 116 = .ok (.iload 5, 2) := by decide +kernel
theorem dX12_part_118 : decode cX12_part 118 = .ok (.iload 6, 2) := by decide +kernel
theorem dX12_part_120 : decode cX12_part 120 = .ok (.if_icmp .le 7, 3) := by decide +kernel
theorem dX12_part_123 : decode cX12_part 123 = .ok (.iconst 1, 1) := by decide +kernel
theorem dX12_part_124 : decode cX12_part 124 = .ok (.goto 4, 3) := by decide +kernel
theorem dX12_part_127 : decode cX12_part 127 = .ok (.iconst 0, 1) := by decide +kernel
theorem dX12_part_128 : decode cX12_part 128 = .ok (.bastore, 1) := by decide +kernel
theorem dX12_part_129 : decode cX12_part 129 = .ok (.iload 5, 2) := by decide +kernel
theorem dX12_part_131 : decode cX12_part 131 = .ok (.iload 6, 2) := by decide +kernel
theorem dX12_part_133 : decode cX12_part 133 = .ok (.if_icmp .le 8, 3) := by decide +kernel
theorem dX12_part_136 : decode cX12_part 136 = .ok (.iload 6, 2) := by decide +kernel
theorem dX12_part_138 : decode cX12_part 138 = .ok (.goto 5, 3) := by decide +kernel
theorem dX12_part_141 : decode cX12_part 141 = .ok (.iload 5, 2) := by decide +kernel
theorem dX12_part_143 : decode cX12_part 143 = .ok (.aload_n 0, 1) := by decide +kernel
theorem dX12_part_144 : decode cX12_part 144 = .ok (.iload_n 1, 1) := by decide +kernel
theorem dX12_part_145 : decode cX12_part 145 = .ok (.iload 4, 2) := by decide +kernel
theorem dX12_part_147 : decode cX12_part 147 = .ok (.iconst 1, 1) := by decide +kernel
theorem dX12_part_148 : decode cX12_part 148 = .ok (.invokevirtual 173, 3) := by decide +kernel
theorem dX12_part_151 : decode cX12_part 151 = .ok (.iadd, 1) := by decide +kernel
theorem dX12_part_152 : decode cX12_part 152 = .ok (.istore 7, 2) := by decide +kernel
theorem dX12_part_154 : decode cX12_part 154 = .ok (.iload 5, 2) := by decide +kernel
theorem dX12_part_156 : decode cX12_part 156 = .ok (.iload 6, 2) := by decide +kernel
theorem dX12_part_158 : decode cX12_part 158 = .ok (.if_icmp .le 18, 3) := by decide +kernel
theorem dX12_part_161 : decode cX12_part 161 = .ok (.iload 7, 2) := by decide +kernel
theorem dX12_part_163 : decode cX12_part 163 = .ok (.aload_n 0, 1) := by decide +kernel
theorem dX12_part_164 : decode cX12_part 164 = .ok (.getfield 199, 3) := by decide +kernel
theorem dX12_part_167 : decode cX12_part 167 = .ok (.if_icmp .le 9, 3) := by decide +kernel
theorem dX12_part_170 : decode cX12_part 170 = .ok (.aload_n 0, 1) := by decide +kernel
theorem dX12_part_171 : decode cX12_part 171 = .ok (.iload 7, 2) := by decide +kernel
theorem dX12_part_173 : decode cX12_part 173 = .ok (.putfield 199, 3) := by decide +kernel
theorem dX12_part_176 : decode cX12_part 176 = .ok (.iload 5, 2) := by decide +kernel
theorem dX12_part_178 : decode cX12_part 178 = .ok (.iload 6, 2) := by decide +kernel
theorem dX12_part_180 : decode cX12_part 180 = .ok (.if_icmp .gt 18, 3) := by decide +kernel
theorem dX12_part_183 : decode cX12_part 183 = .ok (.iload 7, 2) := by decide +kernel
theorem dX12_part_185 : decode cX12_part 185 = .ok (.aload_n 0, 1) := by decide +kernel
theorem dX12_part_186 : decode cX12_part 186 = .ok (.getfield 196, 3) := by decide +kernel
theorem dX12_part_189 : decode cX12_part 189 = .ok (.if_icmp .le 9, 3) := by decide +kernel
theorem dX12_part_192 : decode cX12_part 192 = .ok (.aload_n 0, 1) := by decide +kernel
theorem dX12_part_193 : decode cX12_part 193 = .ok (.iload 7, 2) := by decide +kernel
theorem dX12_part_195 : decode cX12_part 195 = .ok (.putfield 196, 3) := by decide +kernel
theorem dX12_part_198 : decode cX12_part 198 = .ok (.iinc 4 1, 3) := by decide +kernel
theorem dX12_part_201 : decode cX12_part 201 = .ok (.goto (-176), 3) := by decide +kernel
theorem dX12_part_204 : decode cX12_part 204 = .ok (.return_, 1) := by decide +kernel
theorem dX12_findTwo_0 : decode cX12_findTwo 0 = .ok (.aload_n 0, 1) := by decide +kernel
theorem dX12_findTwo_1 : decode cX12_findTwo 1 = .ok (.iload_n 1, 1) := by decide +kernel
theorem dX12_findTwo_2 : decode cX12_findTwo 2 = .ok (.invokevirtual 162, 3) := by decide +kernel
theorem dX12_findTwo_5 : decode cX12_findTwo 5 = .ok (.istore_n 2, 1) := by decide +kernel
theorem dX12_findTwo_6 : decode cX12_findTwo 6 = .ok (.ldc 202, 2) := by decide +kernel
theorem dX12_findTwo_8 : decode cX12_findTwo 8 = .ok (.istore_n 3, 1) := by decide +kernel
theorem dX12_findTwo_9 : decode cX12_findTwo 9 = .ok (.iconst 0, 1) := by decide +kernel
theorem dX12_findTwo_10 : decode cX12_findTwo 10 = .ok (.istore 4, 2) := by decide +kernel
theorem dX12_findTwo_12 : decode cX12_findTwo 12 = .ok (.iload 4, 2) := by decide +kernel
theorem dX12_findTwo_14 : decode cX12_findTwo 14 = .ok (.iload_n 2, 1) := by decide +kernel
theorem dX12_findTwo_15 : decode cX12_findTwo 15 = .ok (.if_icmp .ge 129, 3) := by decide +kernel
theorem dX12_findTwo_18 : decode cX12_findTwo 18 = .ok (.iload 4, 2) := by decide +kernel
theorem dX12_findTwo_20 : decode cX12_findTwo 20 = .ok (.iconst 1, 1) := by decide +kernel
theorem dX12_findTwo_21 : decode cX12_findTwo 21 = .ok (.iadd, 1) := by decide +kernel
theorem dX12_findTwo_22 : decode cX12_findTwo 22 = .ok (.istore 5, 2) := by decide +kernel
theorem dX12_findTwo_24 : decode cX12_findTwo 24 = .ok (.iload 5, 2) := by decide +kernel
theorem dX12_findTwo_26 : decode cX12_findTwo 26 = .ok (.iload_n 2, 1) := by decide +kernel
theorem dX12_findTwo_27 : decode cX12_findTwo 27 = .ok (.if_icmp .ge 111, 3) := by decide +kernel
theorem dX12_findTwo_30 : decode cX12_findTwo 30 = .ok (.aload_n 0, 1) := by decide +kernel
theorem dX12_findTwo_31 : decode cX12_findTwo 31 = .ok (.iload_n 1, 1) := by decide +kernel
theorem dX12_findTwo_32 : decode cX12_findTwo 32 = .ok (.iload 4, 2) := by decide +kernel
theorem dX12_findTwo_34 : decode cX12_findTwo 34 = .ok (.iload 5, 2) := by decide +kernel
theorem dX12_findTwo_36 : decode cX12_findTwo 36 = .ok (.invokevirtual 203, 3) := by decide +kernel
theorem dX12_findTwo_39 : decode cX12_findTwo 39 = .ok (.aload_n 0, 1) := by decide +kernel
theorem dX12_findTwo_40 : decode cX12_findTwo 40 = .ok (.getfield 196, 3) := by decide +kernel
