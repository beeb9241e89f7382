theorem dX10_init_0 : decode cX10_init 0 = .ok (.aload_n 0, 1) := by decide +kernel
theorem dX10_init_1 : decode cX10_init 1 = .ok (.invokespecial 1, 3) := by decide +kernel
theorem dX10_init_4 : decode cX10_init 4 = .ok (.aload_n 0, 1) := by decide +kernel
theorem dX10_init_5 : decode cX10_init 5 = .ok (.iconst (-1), 1) := by decide +kernel
theorem dX10_init_6 : decode cX10_init 6 = .ok (.putfield 9, 3) := by decide +kernel
theorem dX10_init_9 : decode cX10_init 9 = .ok (.aload_n 0, 1) := by decide +kernel
theorem dX10_init_10 : decode cX10_init 10 = .ok (.bipush 60, 2) := by decide +kernel
theorem dX10_init_12 : decode cX10_init 12 = .ok (.newarray .int, 2) := by decide +kernel
theorem dX10_init_14 : decode cX10_init 14 = .ok (.putfield 13, 3) := by decide +kernel
theorem dX10_init_17 : decode cX10_init 17 = .ok (.aload_n 0, 1) := by decide +kernel
theorem dX10_init_18 : decode cX10_init 18 = .ok (.sipush 320, 3) := by decide +kernel
theorem dX10_init_21 : decode cX10_init 21 = .ok (.newarray .int, 2) := by decide +kernel
theorem dX10_init_23 : decode cX10_init 23 = .ok (.putfield 17, 3) := by decide +kernel
theorem dX10_init_26 : decode cX10_init 26 = .ok (.aload_n 0, 1) := by decide +kernel
theorem dX10_init_27 : decode cX10_init 27 = .ok (.sipush 320, 3) := by decide +kernel
theorem dX10_init_30 : decode cX10_init 30 = .ok (.newarray .int, 2) := by decide +kernel
theorem dX10_init_32 : decode cX10_init 32 = .ok (.putfield 20, 3) := by decide +kernel
theorem dX10_init_35 : decode cX10_init 35 = .ok (.aload_n 0, 1) := by decide +kernel
theorem dX10_init_36 : decode cX10_init 36 = .ok (.sipush 320, 3) := by decide +kernel
theorem dX10_init_39 : decode cX10_init 39 = .ok (.newarray .int, 2) := by decide +kernel
theorem dX10_init_41 : decode cX10_init 41 = .ok (.putfield 23, 3) := by decide +kernel
theorem dX10_init_44 : decode cX10_init 44 = .ok (.aload_n 0, 1) := by decide +kernel
theorem dX10_init_45 : decode cX10_init 45 = .ok (.sipush 320, 3) := by decide +kernel
theorem dX10_init_48 : decode cX10_init 48 = .ok (.newarray .int, 2) := by decide +kernel
theorem dX10_init_50 : decode cX10_init 50 = .ok (.putfield 26, 3) := by decide +kernel
theorem dX10_init_53 : decode cX10_init 53 = .ok (.aload_n 0, 1) := by decide +kernel
theorem dX10_init_54 : decode cX10_init 54 = .ok (.sipush 320, 3) := by decide +kernel
theorem dX10_init_57 : decode cX10_init 57 = .ok (.newarray .int, 2) := by decide +kernel
theorem dX10_init_59 : decode cX10_init 59 = .ok (.putfield 29, 3) := by decide +kernel
theorem dX10_init_62 : decode cX10_init 62 = .ok (.aload_n 0, 1) := by decide +kernel
theorem dX10_init_63 : decode cX10_init 63 = .ok (.sipush 320, 3) := by decide +kernel
theorem dX10_init_66 : decode cX10_init 66 = .ok (.newarray .int, 2) := by decide +kernel
theorem dX10_init_68 : decode cX10_init 68 = .ok (.putfield 32, 3) := by decide +kernel
theorem dX10_init_71 : decode cX10_init 71 = .ok (.aload_n 0, 1) := by decide +kernel
theorem dX10_init_72 : decode cX10_init 72 = .ok (.iconst 5, 1) := by decide +kernel
theorem dX10_init_73 : decode cX10_init 73 = .ok (.newarray .int, 2) := by decide +kernel
theorem dX10_init_75 : decode cX10_init 75 = .ok (.putfield 35, 3) := by decide +kernel
theorem dX10_init_78 : decode cX10_init 78 = .ok (.aload_n 0, 1) := by decide +kernel
theorem dX10_init_79 : decode cX10_init 79 = .ok (.iconst 5, 1) := by decide +kernel
theorem dX10_init_80 : decode cX10_init 80 = .ok (.newarray .int, 2) := by decide +kernel
theorem dX10_init_82 : decode cX10_init 82 = .ok (.putfield 38, 3) := by decide +kernel
theorem dX10_init_85 : decode cX10_init 85 = .ok (.aload_n 0, 1) := by decide +kernel
theorem dX10_init_86 : decode cX10_init 86 = .ok (.iconst 3, 1) := by decide +kernel
theorem dX10_init_87 : decode cX10_init 87 = .ok (.newarray .boolean, 2) := by decide +kernel
theorem dX10_init_89 : decode cX10_init 89 = .ok (.putfield 41, 3) := by decide +kernel
theorem dX10_init_92 : decode cX10_init 92 = .ok (.aload_n 0, 1) := by decide +kernel
theorem dX10_init_93 : decode cX10_init 93 = .ok (.iconst 3, 1) := by decide +kernel
theorem dX10_init_94 : decode cX10_init 94 = .ok (.newarray .int, 2) := by decide +kernel
theorem dX10_init_96 : decode cX10_init 96 = .ok (.putfield 45, 3) := by decide +kernel
theorem dX10_init_99 : decode cX10_init 99 = .ok (.aload_n 0, 1) := by decide +kernel
theorem dX10_init_100 : decode cX10_init 100 = .ok (.iconst 3, 1) := by decide +kernel
theorem dX10_init_101 : decode cX10_init 101 = .ok (.newarray .int, 2) := by decide +kernel
theorem dX10_init_103 : decode cX10_init 103 = .ok (.putfield 48, 3) := by decide +kernel
theorem dX10_init_106 : decode cX10_init 106 = .ok (.aload_n 0, 1) := by decide +kernel
theorem dX10_init_107 : decode cX10_init 107 = .ok (.iconst 3, 1) := by decide +kernel
theorem dX10_init_108 : decode cX10_init 108 = .ok (.newarray .int, 2) := by decide +kernel
theorem dX10_init_110 : decode cX10_init 110 = .ok (.putfield 51, 3) := by decide +kernel
theorem dX10_init_113 : decode cX10_init 113 = .ok (.aload_n 0, 1) := by decide +kernel
theorem dX10_init_114 : decode cX10_init 114 = .ok (.bipush 21, 2) := by decide +kernel
theorem dX10_init_116 : decode cX10_init 116 = .ok (.newarray .int, 2) := by decide +kernel
theorem dX10_init_118 : decode cX10_init 118 = .ok (.putfield 54, 3) := by decide +kernel
theorem dX10_init_121 : decode cX10_init 121 = .ok (.aload_n 0, 1) := by decide +kernel
theorem dX10_init_122 : decode cX10_init 122 = .ok (.bipush 21, 2) := by decide +kernel
theorem dX10_init_124 : decode cX10_init 124 = .ok (.newarray .int, 2) := by decide +kernel
theorem dX10_init_126 : decode cX10_init 126 = .ok (.putfield 57, 3) := by decide +kernel
theorem dX10_init_129 : decode cX10_init 129 = .ok (.aload_n 0, 1) := by decide +kernel
theorem dX10_init_130 : decode cX10_init 130 = .ok (.bipush 8, 2) := by decide +kernel
theorem dX10_init_132 : decode cX10_init 132 = .ok (.newarray .int, 2) := by decide +kernel
theorem dX10_init_134 : decode cX10_init 134 = .ok (.putfield 60, 3) := by decide +kernel
theorem dX10_init_137 : decode cX10_init 137 = .ok (.aload_n 0, 1) := by decide +kernel
theorem dX10_init_138 : decode cX10_init 138 = .ok (.bipush 80, 2) := by decide +kernel
theorem dX10_init_140 : decode cX10_init 140 = .ok (.newarray .int, 2) := by decide +kernel
theorem dX10_init_142 : decode cX10_init 142 = .ok (.putfield 63, 3) := by decide +kernel
theorem dX10_init_145 : decode cX10_init 145 = .ok (.aload_n 0, 1) := by decide +kernel
theorem dX10_init_146 : decode cX10_init 146 = .ok (.sipush 320, 3) := by decide +kernel
theorem dX10_init_149 : decode cX10_init 149 = .ok (.newarray .long, 2) := by decide +kernel
theorem dX10_init_151 : decode cX10_init 151 = .ok (.putfield 66, 3) := by decide +kernel
theorem dX10_init_154 : decode cX10_init 154 = .ok (.aload_n 0, 1) := by decide +kernel
theorem dX10_init_155 : decode cX10_init 155 = .ok (.sipush 320, 3) := by decide +kernel
theorem dX10_init_158 : decode cX10_init 158 = .ok (.newarray .long, 2) := by decide +kernel
theorem dX10_init_160 : decode cX10_init 160 = .ok (.putfield 70, 3) := by decide +kernel
theorem dX10_init_163 : decode cX10_init 163 = .ok (.aload_n 0, 1) := by decide +kernel
theorem dX10_init_164 : decode cX10_init 164 = .ok (.sipush 320, 3) := by decide +kernel
theorem dX10_init_167 : decode cX10_init 167 = .ok (.newarray .long, 2) := by decide +kernel
theorem dX10_init_169 : decode cX10_init 169 = .ok (.putfield 73, 3) := by decide +kernel
theorem dX10_init_172 : decode cX10_init 172 = .ok (.aload_n 0, 1) := by decide +kernel
theorem dX10_init_173 : decode cX10_init 173 = .ok (.bipush 64, 2) := by decide +kernel
theorem dX10_init_175 : decode cX10_init 175 = .ok (.newarray .int, 2) := by decide +kernel
theorem dX10_init_177 : decode cX10_init 177 = .ok (.putfield 76, 3) := by decide +kernel
theorem dX10_init_180 : decode cX10_init 180 = .ok (.aload_n 0, 1) := by decide +kernel
theorem dX10_init_181 : decode cX10_init 181 = .ok (.bipush 64, 2) := by decide +kernel
theorem dX10_init_183 : decode cX10_init 183 = .ok (.newarray .int, 2) := by decide +kernel
theorem dX10_init_185 : decode cX10_init 185 = .ok (.putfield 79, 3) := by decide +kernel
theorem dX10_init_188 : decode cX10_init 188 = .ok (.aload_n 0, 1) := by decide +kernel
theorem dX10_init_189 : decode cX10_init 189 = .ok (.bipush 80, 2) := by decide +kernel
theorem dX10_init_191 : decode cX10_init 191 = .ok (.newarray .int, 2) := by decide +kernel
theorem dX10_init_193 : decode cX10_init 193 = .ok (.putfield 82, 3) := by decide +kernel
theorem dX10_init_196 : decode cX10_init 196 = .ok (.aload_n 0, 1) := by decide +kernel
theorem dX10_init_197 : decode cX10_init 197 = .ok (.bipush 8, 2) := by decide +kernel
theorem dX10_init_199 : decode cX10_init 199 = .ok (.newarray .int, 2) := by decide +kernel
theorem dX10_init_201 : decode cX10_init 201 = .ok (.putfield 85, 3) := by decide +kernel
theorem dX10_init_204 : decode cX10_init 204 = .ok (.aload_n 0, 1) := by decide +kernel
theorem dX10_init_205 : decode cX10_init 205 = .ok (.bipush 8, 2) := by decide +kernel
theorem dX10_init_207 : decode cX10_init 207 = .ok (.newarray .boolean, 2) := by decide +kernel
theorem dX10_init_209 : decode cX10_init 209 = .ok (.putfield 88, 3) := by decide +kernel
theorem dX10_init_212 : decode cX10_init 212 = .ok (.aload_n 0, 1) := by decide +kernel
theorem dX10_init_213 : decode cX10_init 213 = .ok (.bipush 40, 2) := by decide +kernel
theorem dX10_init_215 : decode cX10_init 215 = .ok (.newarray .long, 2) := by decide +kernel
theorem dX10_init_217 : decode cX10_init 217 = .ok (.putfield 91, 3) := by decide +kernel
theorem dX10_init_220 : decode cX10_init 220 = .ok (.aload_n 0, 1) := by decide +kernel
theorem dX10_init_221 : decode cX10_init 221 = .ok (.bipush 40, 2) := by decide +kernel
theorem dX10_init_223 : decode cX10_init 223 = .ok (.newarray .long, 2) := by decide +kernel
theorem dX10_init_225 : decode cX10_init 225 = .ok (.putfield 94, 3) := by decide +kernel
theorem dX10_init_228 : decode cX10_init 228 = .ok (.aload_n 0, 1) := by decide +kernel
theorem dX10_init_229 : decode cX10_init 229 = .ok (.iconst 5, 1) := by decide +kernel
theorem dX10_init_230 : decode cX10_init 230 = .ok (.newarray .long, 2) := by decide +kernel
theorem dX10_init_232 : decode cX10_init 232 = .ok (.putfield 97, 3) := by decide +kernel
theorem dX10_init_235 : decode cX10_init 235 = .ok (.aload_n 0, 1) := by decide +kernel
theorem dX10_init_236 : decode cX10_init 236 = .ok (.iconst 5, 1) := by decide +kernel
theorem dX10_init_237 : decode cX10_init 237 = .ok (.newarray .long, 2) := by decide +kernel
theorem dX10_init_239 : decode cX10_init 239 = .ok (.putfield 100, 3) := by decide +kernel
theorem dX10_init_242 : decode cX10_init 242 = .ok (.aload_n 0, 1) := by decide +kernel
theorem dX10_init_243 : decode cX10_init 243 = .ok (.bipush 13, 2) := by decide +kernel
theorem dX10_init_245 : decode cX10_init 245 = .ok (.putfield 103, 3) := by decide +kernel
theorem dX10_init_248 : decode cX10_init 248 = .ok (.aload_n 0, 1) := by decide +kernel
theorem dX10_init_249 : decode cX10_init 249 = .ok (.bipush 64, 2) := by decide +kernel
theorem dX10_init_251 : decode cX10_init 251 = .ok (.newarray .int, 2) := by decide +kernel
theorem dX10_init_253 : decode cX10_init 253 = .ok (.putfield 106, 3) := by decide +kernel
theorem dX10_init_256 : decode cX10_init 256 = .ok (.aload_n 0, 1) := by decide +kernel
theorem dX10_init_257 : decode cX10_init 257 = .ok (.bipush 64, 2) := by decide +kernel
theorem dX10_init_259 : decode cX10_init 259 = .ok (.newarray .int, 2) := by decide +kernel
theorem dX10_init_261 : decode cX10_init 261 = .ok (.putfield 109, 3) := by decide +kernel
theorem dX10_init_264 : decode cX10_init 264 = .ok (.aload_n 0, 1) := by decide +kernel
theorem dX10_init_265 : decode cX10_init 265 = .ok (.bipush 64, 2) := by decide +kernel
theorem dX10_init_267 : decode cX10_init 267 = .ok (.newarray .int, 2) := by decide +kernel
theorem dX10_init_269 : decode cX10_init 269 = .ok (.putfield 112, 3) := by decide +kernel
theorem dX10_init_272 : decode cX10_init 272 = .ok (.aload_n 0, 1) := by decide +kernel
theorem dX10_init_273 : decode cX10_init 273 = .ok (.bipush 64, 2) := by decide +kernel
theorem dX10_init_275 : decode cX10_init 275 = .ok (.newarray .int, 2) := by decide +kernel
theorem dX10_init_277 : decode cX10_init 277 = .ok (.putfield 115, 3) := by decide +kernel
theorem dX10_init_280 : decode cX10_init 280 = .ok (.aload_n 0, 1) := by decide +kernel
theorem dX10_init_281 : decode cX10_init 281 = .ok (.iconst 2, 1) := by decide +kernel
theorem dX10_init_282 : decode cX10_init 282 = .ok (.newarray .int, 2) := by decide +kernel
theorem dX10_init_284 : decode cX10_init 284 = .ok (.dup, 1) := by decide +kernel
theorem dX10_init_285 : decode cX10_init 285 = .ok (.iconst 0, 1) := by decide +kernel
theorem dX10_init_286 : decode cX10_init 286 = .ok (.iconst 2, 1) := by decide +kernel
theorem dX10_init_287 : decode cX10_init 287 = .ok (.iastore, 1) := by decide +kernel
theorem dX10_init_288 : decode cX10_init 288 = .ok (.dup, 1) := by decide +kernel
theorem dX10_init_289 : decode cX10_init 289 = .ok (.iconst 1, 1) := by decide +kernel
theorem dX10_init_290 : decode cX10_init 290 = .ok (.iconst 2, 1) := by decide +kernel
theorem dX10_init_291 : decode cX10_init 291 = .ok (.iastore, 1) := by decide +kernel
theorem dX10_init_292 : decode cX10_init 292 = .ok (.putfield 118, 3) := by decide +kernel
theorem dX10_init_295 : decode cX10_init 295 = .ok (.aload_n 0, 1) := by decide +kernel
theorem dX10_init_296 : decode cX10_init 296 = .ok (.iconst (-1), 1) := by decide +kernel
theorem dX10_init_297 : decode cX10_init 297 = .ok (.putfield 121, 3) := by decide +kernel
theorem dX10_init_300 : decode cX10_init 300 = .ok (.aload_n 0, 1) := by decide +kernel
theorem dX10_init_301 : decode cX10_init 301 = .ok (.bipush 80, 2) := by decide +kernel
theorem dX10_init_303 : decode cX10_init 303 = .ok (.newarray .int, 2) := by decide +kernel
theorem dX10_init_305 : decode cX10_init 305 = .ok (.putfield 124, 3) := by decide +kernel
theorem dX10_init_308 : decode cX10_init 308 = .ok (.aload_n 0, 1) := by decide +kernel
theorem dX10_init_309 : decode cX10_init 309 = .ok (.bipush 80, 2) := by decide +kernel
theorem dX10_init_311 : decode cX10_init 311 = .ok (.newarray .int, 2) := by decide +kernel
theorem dX10_init_313 : decode cX10_init 313 = .ok (.putfield 127, 3) := by decide +kernel
theorem dX10_init_316 : decode cX10_init 316 = .ok (.aload_n 0, 1) := by decide +kernel
theorem dX10_init_317 : decode cX10_init 317 = .ok (.bipush 80, 2) := by decide +kernel
theorem dX10_init_319 : decode cX10_init 319 = .ok (.newarray .int, 2) := by decide +kernel
theorem dX10_init_321 : decode cX10_init 321 = .ok (.putfield 130, 3) := by decide +kernel
theorem dX10_init_324 : decode cX10_init 324 = .ok (.aload_n 0, 1) := by decide +kernel
theorem dX10_init_325 : decode cX10_init 325 = .ok (.bipush 80, 2) := by decide +kernel
theorem dX10_init_327 : decode cX10_init 327 = .ok (.newarray .int, 2) := by decide +kernel
theorem dX10_init_329 : decode cX10_init 329 = .ok (.putfield 133, 3) := by decide +kernel
theorem dX10_init_332 : decode cX10_init 332 = .ok (.aload_n 0, 1) := by decide +kernel
theorem dX10_init_333 : decode cX10_init 333 = .ok (.bipush 40, 2) := by decide +kernel
theorem dX10_init_335 : decode cX10_init 335 = .ok (.newarray .int, 2) := by decide +kernel
theorem dX10_init_337 : decode cX10_init 337 = .ok (.putfield 136, 3) := by decide +kernel
theorem dX10_init_340 : decode cX10_init 340 = .ok (.aload_n 0, 1) := by decide +kernel
theorem dX10_init_341 : decode cX10_init 341 = .ok (.iconst 5, 1) := by decide +kernel
theorem dX10_init_342 : decode cX10_init 342 = .ok (.newarray .long, 2) := by decide +kernel
theorem dX10_init_344 : decode cX10_init 344 = .ok (.putfield 139, 3) := by decide +kernel
theorem dX10_init_347 : decode cX10_init 347 = .ok (.aload_n 0, 1) := by decide +kernel
theorem dX10_init_348 : decode cX10_init 348 = .ok (.iconst 5, 1) := by decide +kernel
theorem dX10_init_349 : decode cX10_init 349 = .ok (.newarray .long, 2) := by decide +kernel
theorem dX10_init_351 : decode cX10_init 351 = .ok (.putfield 142, 3) := by decide +kernel
theorem dX10_init_354 : decode cX10_init 354 = .ok (.aload_n 0, 1) := by decide +kernel
theorem dX10_init_355 : decode cX10_init 355 = .ok (.iconst 5, 1) := by decide +kernel
theorem dX10_init_356 : decode cX10_init 356 = .ok (.newarray .long, 2) := by decide +kernel
theorem dX10_init_358 : decode cX10_init 358 = .ok (.putfield 145, 3) := by decide +kernel
theorem dX10_init_361 : decode cX10_init 361 = .ok (.aload_n 0, 1) := by decide +kernel
theorem dX10_init_362 : decode cX10_init 362 = .ok (.getfield 106, 3) := by decide +kernel
theorem dX10_init_365 : decode cX10_init 365 = .ok (.iconst 0, 1) := by decide +kernel
theorem dX10_init_366 : decode cX10_init 366 = .ok (.iconst 2, 1) := by decide +kernel
theorem dX10_init_367 : decode cX10_init 367 = .ok (.iastore, 1) := by decide +kernel
theorem dX10_init_368 : decode cX10_init 368 = .ok (.aload_n 0, 1) := by decide +kernel
theorem dX10_init_369 : decode cX10_init 369 = .ok (.getfield 106, 3) := by decide +kernel
theorem dX10_init_372 : decode cX10_init 372 = .ok (.iconst 1, 1) := by decide +kernel
theorem dX10_init_373 : decode cX10_init 373 = .ok (.iconst 4, 1) := by decide +kernel
theorem dX10_init_374 : decode cX10_init 374 = .ok (.iastore, 1) := by decide +kernel
theorem dX10_init_375 : decode cX10_init 375 = .ok (.aload_n 0, 1) := by decide +kernel
theorem dX10_init_376 : decode cX10_init 376 = .ok (.getfield 106, 3) := by decide +kernel
theorem dX10_init_379 : decode cX10_init 379 = .ok (.iconst 2, 1) := by decide +kernel
theorem dX10_init_380 : decode cX10_init 380 = .ok (.bipush 8, 2) := by decide +kernel
theorem dX10_init_382 : decode cX10_init 382 = .ok (.iastore, 1) := by decide +kernel
theorem dX10_init_383 : decode cX10_init 383 = .ok (.iconst 0, 1) := by decide +kernel
theorem dX10_init_384 : decode cX10_init 384 = .ok (.istore_n 1, 1) := by decide +kernel
theorem dX10_init_385 : decode cX10_init 385 = .ok (.iload_n 1, 1) := by decide +kernel
theorem dX10_init_386 : decode cX10_init 386 = .ok (.bipush 10, 2) := by decide +kernel
theorem dX10_init_388 : decode cX10_init 388 = .ok (.if_icmp .ge 27, 3) := by decide +kernel
theorem dX10_init_391 : decode cX10_init 391 = .ok (.aload_n 0, 1) := by decide +kernel
theorem dX10_init_392 : decode cX10_init 392 = .ok (.getfield 106, 3) := by decide +kernel
theorem dX10_init_395 : decode cX10_init 395 = .ok (.iconst 3, 1) := by decide +kernel
theorem dX10_init_396 : decode cX10_init 396 = .ok (.iload_n 1, 1) := by decide +kernel
theorem dX10_init_397 : decode cX10_init 397 = .ok (.iadd, 1) := by decide +kernel
theorem dX10_init_398 : decode cX10_init 398 = .ok (.iconst 1, 1) := by decide +kernel
theorem dX10_init_399 : decode cX10_init 399 = .ok (.iastore, 1) := by decide +kernel
theorem dX10_init_400 : decode cX10_init 400 = .ok (.aload_n 0, 1) := by decide +kernel
theorem dX10_init_401 : decode cX10_init 401 = .ok (.getfield 109, 3) := by decide +kernel
theorem dX10_init_404 : decode cX10_init 404 = .ok (.iconst 3, 1) := by decide +kernel
theorem dX10_init_405 : decode cX10_init 405 = .ok (.iload_n 1, 1) := by decide +kernel
theorem dX10_init_406 : decode cX10_init 406 = .ok (.iadd, 1) := by decide +kernel
theorem dX10_init_407 : decode cX10_init 407 = .ok (.iload_n 1, 1) := by decide +kernel
theorem dX10_init_408 : decode cX10_init 408 = .ok (.iastore, 1) := by decide +kernel
theorem dX10_init_409 : decode cX10_init 409 = .ok (.iinc 1 1, 3) := by decide +kernel
theorem dX10_init_412 : decode cX10_init 412 = .ok (.goto (-27), 3) := by decide +kernel
theorem dX10_init_415 : decode cX10_init 415 = .ok (.iconst 0, 1) := by decide +kernel
theorem dX10_init_416 : decode cX10_init 416 = .ok (.istore_n 1, 1) := by decide +kernel
theorem dX10_init_417 : decode cX10_init 417 = .ok (.iload_n 1, 1) := by decide +kernel
theorem dX10_init_418 : decode cX10_init 418 = .ok (.bipush 64, 2) := by decide +kernel
theorem dX10_init_420 : decode cX10_init 420 = .ok (.if_icmp .ge 23, 3) := by decide +kernel
theorem dX10_init_423 : decode cX10_init 423 = .ok (.aload_n 0, 1) := by decide +kernel
theorem dX10_init_424 : decode cX10_init 424 = .ok (.getfield 112, 3) := by decide +kernel
theorem dX10_init_427 : decode cX10_init 427 = .ok (.iload_n 1, 1) := by decide +kernel
theorem dX10_init_428 : decode cX10_init 428 = .ok (.iconst (-1), 1) := by decide +kernel
theorem dX10_init_429 : decode cX10_init 429 = .ok (.iastore, 1) := by decide +kernel
theorem dX10_init_430 : decode cX10_init 430 = .ok (.aload_n 0, 1) := by decide +kernel
theorem dX10_init_431 : decode cX10_init 431 = .ok (.getfield 115, 3) := by decide +kernel
theorem dX10_init_434 : decode cX10_init 434 = .ok (.iload_n 1, 1) := by decide +kernel
theorem dX10_init_435 : decode cX10_init 435 = .ok (.iconst (-1), 1) := by decide +kernel
theorem dX10_init_436 : decode cX10_init 436 = .ok (.iastore, 1) := by decide +kernel
theorem dX10_init_437 : decode cX10_init 437 = .ok (.iinc 1 1, 3) := by decide +kernel
theorem dX10_init_440 : decode cX10_init 440 = .ok (.goto (-23), 3) := by decide +kernel
theorem dX10_init_443 : decode cX10_init 443 = .ok (.return_, 1) := by decide +kernel
set_option maxRecDepth 20000 in
set_option maxHeartbeats 4000000 in
theorem w_X10_init {c : cX} {d : Nat} {C : cS} {K : Option Value → cS → Prop} (t : Nat) (hT0 : cT C t 10 59) (h : cG c eX10_init (d + 1) (cQ K) 4 [some (.ref t), none] [] C) : cM c (d + 1) eX10_init [.ref t] C K := by
  refine cM.of2 (lv := [some (.ref t), none]) (by decide) (Nat.le_of_ble_eq_true rfl) rfl ?_
  refine ag_aload_n dX10_init_0 rfl (Or.inr ⟨_, rfl⟩) ?_
  refine ag_obj dX10_init_1 lo_10_1 io_1 io_2 (Nat.le_of_ble_eq_true rfl) ?_
  exact h
set_option maxRecDepth 20000 in
set_option maxHeartbeats 4000000 in
theorem w_X10_init_4 {c : cX} {d : Nat} {C : cS} {K : Option Value → cS → Prop} (t : Nat) (hT0 : cT C t 10 59) (h : cG c eX10_init (d + 1) (cQ K) 9 [some (.ref t), none] [] (csi C t 1 (-1))) : cG c eX10_init (d + 1) (cQ K) 4 [some (.ref t), none] [] C := by
  refine ag_aload_n dX10_init_4 rfl (Or.inr ⟨_, rfl⟩) ?_
  refine ag_iconst (v := (-1)) dX10_init_5 rfl ?_
  refine cr_pi (C2 := (csi C t 1 (-1))) dX10_init_6 pw_10_9 rfl hT0 (fun _ => ⟨rfl, rfl⟩) rfl ?_
  exact h
set_option maxRecDepth 20000 in
set_option maxHeartbeats 4000000 in
theorem w_X10_init_9 {c : cX} {d : Nat} {C : cS} {K : Option Value → cS → Prop} (t : Nat) (hT0 : cT C t 10 59) (h : cG c eX10_init (d + 1) (cQ K) 17 [some (.ref t), none] [] (csr (cnw C 20 60) t 3 (some C.1))) : cG c eX10_init (d + 1) (cQ K) 9 [some (.ref t), none] [] C := by
  refine ag_aload_n dX10_init_9 rfl (Or.inr ⟨_, rfl⟩) ?_
  refine ag_bipush (v := 60) dX10_init_10 (by decide) ?_
  refine cr_newa (t := 20) (C2 := (cnw C 20 60)) dX10_init_12 rfl ac_int (by decide) (by decide) (by decide) (fun _ => rfl) rfl ?_
  have hT1 := cT_nw (C := C) (t := 20) (n := 60) hT0
  have hT2 := cT.le (C := C) hT0 (cle_nw C 20 60)
  refine cr_prF (r := (some C.1)) (C2 := (csr (cnw C 20 60) t 3 (some C.1))) dX10_init_14 rfl pw_10_13 rfl (Or.inr ⟨_, rfl⟩) hT2 rfl ?_
  exact h
set_option maxRecDepth 20000 in
set_option maxHeartbeats 4000000 in
theorem w_X10_init_17 {c : cX} {d : Nat} {C : cS} {K : Option Value → cS → Prop} (t : Nat) (hT0 : cT C t 10 59) (h : cG c eX10_init (d + 1) (cQ K) 26 [some (.ref t), none] [] (csr (cnw C 20 320) t 4 (some C.1))) : cG c eX10_init (d + 1) (cQ K) 17 [some (.ref t), none] [] C := by
  refine ag_aload_n dX10_init_17 rfl (Or.inr ⟨_, rfl⟩) ?_
  refine ag_sipush (v := 320) dX10_init_18 (by decide) ?_
  refine cr_newa (t := 20) (C2 := (cnw C 20 320)) dX10_init_21 rfl ac_int (by decide) (by decide) (by decide) (fun _ => rfl) rfl ?_
  have hT1 := cT_nw (C := C) (t := 20) (n := 320) hT0
  have hT2 := cT.le (C := C) hT0 (cle_nw C 20 320)
  refine cr_prF (r := (some C.1)) (C2 := (csr (cnw C 20 320) t 4 (some C.1))) dX10_init_23 rfl pw_10_17 rfl (Or.inr ⟨_, rfl⟩) hT2 rfl ?_
  exact h
set_option maxRecDepth 20000 in
set_option maxHeartbeats 4000000 in
theorem w_X10_init_26 {c : cX} {d : Nat} {C : cS} {K : Option Value → cS → Prop} (t : Nat) (hT0 : cT C t 10 59) (h : cG c eX10_init (d + 1) (cQ K) 35 [some (.ref t), none] [] (csr (cnw C 20 320) t 5 (some C.1))) : cG c eX10_init (d + 1) (cQ K) 26 [some (.ref t), none] [] C := by
  refine ag_aload_n dX10_init_26 rfl (Or.inr ⟨_, rfl⟩) ?_
  refine ag_sipush (v := 320) dX10_init_27 (by decide) ?_
  refine cr_newa (t := 20) (C2 := (cnw C 20 320)) dX10_init_30 rfl ac_int (by decide) (by decide) (by decide) (fun _ => rfl) rfl ?_
  have hT1 := cT_nw (C := C) (t := 20) (n := 320) hT0
  have hT2 := cT.le (C := C) hT0 (cle_nw C 20 320)
  refine cr_prF (r := (some C.1)) (C2 := (csr (cnw C 20 320) t 5 (some C.1))) dX10_init_32 rfl pw_10_20 rfl (Or.inr ⟨_, rfl⟩) hT2 rfl ?_
  exact h
set_option maxRecDepth 20000 in
set_option maxHeartbeats 4000000 in
theorem w_X10_init_35 {c : cX} {d : Nat} {C : cS} {K : Option Value → cS → Prop} (t : Nat) (hT0 : cT C t 10 59) (h : cG c eX10_init (d + 1) (cQ K) 44 [some (.ref t), none] [] (csr (cnw C 20 320) t 6 (some C.1))) : cG c eX10_init (d + 1) (cQ K) 35 [some (.ref t), none] [] C := by
  refine ag_aload_n dX10_init_35 rfl (Or.inr ⟨_, rfl⟩) ?_
  refine ag_sipush (v := 320) dX10_init_36 (by decide) ?_
  refine cr_newa (t := 20) (C2 := (cnw C 20 320)) dX10_init_39 rfl ac_int (by decide) (by decide) (by decide) (fun _ => rfl) rfl ?_
  have hT1 := cT_nw (C := C) (t := 20) (n := 320) hT0
  have hT2 := cT.le (C := C) hT0 (cle_nw C 20 320)
  refine cr_prF (r := (some C.1)) (C2 := (csr (cnw C 20 320) t 6 (some C.1))) dX10_init_41 rfl pw_10_23 rfl (Or.inr ⟨_, rfl⟩) hT2 rfl ?_
  exact h
set_option maxRecDepth 20000 in
set_option maxHeartbeats 4000000 in
theorem w_X10_init_44 {c : cX} {d : Nat} {C : cS} {K : Option Value → cS → Prop} (t : Nat) (hT0 : cT C t 10 59) (h : cG c eX10_init (d + 1) (cQ K) 53 [some (.ref t), none] [] (csr (cnw C 20 320) t 7 (some C.1))) : cG c eX10_init (d + 1) (cQ K) 44 [some (.ref t), none] [] C := by
  refine ag_aload_n dX10_init_44 rfl (Or.inr ⟨_, rfl⟩) ?_
  refine ag_sipush (v := 320) dX10_init_45 (by decide) ?_
  refine cr_newa (t := 20) (C2 := (cnw C 20 320)) dX10_init_48 rfl ac_int (by decide) (by decide) (by decide) (fun _ => rfl) rfl ?_
  have hT1 := cT_nw (C := C) (t := 20) (n := 320) hT0
  have hT2 := cT.le (C := C) hT0 (cle_nw C 20 320)
  refine cr_prF (r := (some C.1)) (C2 := (csr (cnw C 20 320) t 7 (some C.1))) dX10_init_50 rfl pw_10_26 rfl (Or.inr ⟨_, rfl⟩) hT2 rfl ?_
  exact h
set_option maxRecDepth 20000 in
set_option maxHeartbeats 4000000 in
theorem w_X10_init_53 {c : cX} {d : Nat} {C : cS} {K : Option Value → cS → Prop} (t : Nat) (hT0 : cT C t 10 59) (h : cG c eX10_init (d + 1) (cQ K) 62 [some (.ref t), none] [] (csr (cnw C 20 320) t 8 (some C.1))) : cG c eX10_init (d + 1) (cQ K) 53 [some (.ref t), none] [] C := by
  refine ag_aload_n dX10_init_53 rfl (Or.inr ⟨_, rfl⟩) ?_
  refine ag_sipush (v := 320) dX10_init_54 (by decide) ?_
  refine cr_newa (t := 20) (C2 := (cnw C 20 320)) dX10_init_57 rfl ac_int (by decide) (by decide) (by decide) (fun _ => rfl) rfl ?_
  have hT1 := cT_nw (C := C) (t := 20) (n := 320) hT0
  have hT2 := cT.le (C := C) hT0 (cle_nw C 20 320)
  refine cr_prF (r := (some C.1)) (C2 := (csr (cnw C 20 320) t 8 (some C.1))) dX10_init_59 rfl pw_10_29 rfl (Or.inr ⟨_, rfl⟩) hT2 rfl ?_
  exact h
set_option maxRecDepth 20000 in
set_option maxHeartbeats 4000000 in
theorem w_X10_init_62 {c : cX} {d : Nat} {C : cS} {K : Option Value → cS → Prop} (t : Nat) (hT0 : cT C t 10 59) (h : cG c eX10_init (d + 1) (cQ K) 71 [some (.ref t), none] [] (csr (cnw C 20 320) t 9 (some C.1))) : cG c eX10_init (d + 1) (cQ K) 62 [some (.ref t), none] [] C := by
  refine ag_aload_n dX10_init_62 rfl (Or.inr ⟨_, rfl⟩) ?_
  refine ag_sipush (v := 320) dX10_init_63 (by decide) ?_
  refine cr_newa (t := 20) (C2 := (cnw C 20 320)) dX10_init_66 rfl ac_int (by decide) (by decide) (by decide) (fun _ => rfl) rfl ?_
  have hT1 := cT_nw (C := C) (t := 20) (n := 320) hT0
  have hT2 := cT.le (C := C) hT0 (cle_nw C 20 320)
  refine cr_prF (r := (some C.1)) (C2 := (csr (cnw C 20 320) t 9 (some C.1))) dX10_init_68 rfl pw_10_32 rfl (Or.inr ⟨_, rfl⟩) hT2 rfl ?_
  exact h
set_option maxRecDepth 20000 in
set_option maxHeartbeats 4000000 in
theorem w_X10_init_71 {c : cX} {d : Nat} {C : cS} {K : Option Value → cS → Prop} (t : Nat) (hT0 : cT C t 10 59) (h : cG c eX10_init (d + 1) (cQ K) 78 [some (.ref t), none] [] (csr (cnw C 20 5) t 10 (some C.1))) : cG c eX10_init (d + 1) (cQ K) 71 [some (.ref t), none] [] C := by
  refine ag_aload_n dX10_init_71 rfl (Or.inr ⟨_, rfl⟩) ?_
  refine ag_iconst (v := 5) dX10_init_72 rfl ?_
  refine cr_newa (t := 20) (C2 := (cnw C 20 5)) dX10_init_73 rfl ac_int (by decide) (by decide) (by decide) (fun _ => rfl) rfl ?_
  have hT1 := cT_nw (C := C) (t := 20) (n := 5) hT0
  have hT2 := cT.le (C := C) hT0 (cle_nw C 20 5)
  refine cr_prF (r := (some C.1)) (C2 := (csr (cnw C 20 5) t 10 (some C.1))) dX10_init_75 rfl pw_10_35 rfl (Or.inr ⟨_, rfl⟩) hT2 rfl ?_
  exact h
set_option maxRecDepth 20000 in
set_option maxHeartbeats 4000000 in
theorem w_X10_init_78 {c : cX} {d : Nat} {C : cS} {K : Option Value → cS → Prop} (t : Nat) (hT0 : cT C t 10 59) (h : cG c eX10_init (d + 1) (cQ K) 85 [some (.ref t), none] [] (csr (cnw C 20 5) t 11 (some C.1))) : cG c eX10_init (d + 1) (cQ K) 78 [some (.ref t), none] [] C := by
  refine ag_aload_n dX10_init_78 rfl (Or.inr ⟨_, rfl⟩) ?_
  refine ag_iconst (v := 5) dX10_init_79 rfl ?_
  refine cr_newa (t := 20) (C2 := (cnw C 20 5)) dX10_init_80 rfl ac_int (by decide) (by decide) (by decide) (fun _ => rfl) rfl ?_
  have hT1 := cT_nw (C := C) (t := 20) (n := 5) hT0
  have hT2 := cT.le (C := C) hT0 (cle_nw C 20 5)
  refine cr_prF (r := (some C.1)) (C2 := (csr (cnw C 20 5) t 11 (some C.1))) dX10_init_82 rfl pw_10_38 rfl (Or.inr ⟨_, rfl⟩) hT2 rfl ?_
  exact h
set_option maxRecDepth 20000 in
set_option maxHeartbeats 4000000 in
theorem w_X10_init_85 {c : cX} {d : Nat} {C : cS} {K : Option Value → cS → Prop} (t : Nat) (hT0 : cT C t 10 59) (h : cG c eX10_init (d + 1) (cQ K) 92 [some (.ref t), none] [] (csr (cnw C 22 3) t 12 (some C.1))) : cG c eX10_init (d + 1) (cQ K) 85 [some (.ref t), none] [] C := by
  refine ag_aload_n dX10_init_85 rfl (Or.inr ⟨_, rfl⟩) ?_
  refine ag_iconst (v := 3) dX10_init_86 rfl ?_
  refine cr_newa (t := 22) (C2 := (cnw C 22 3)) dX10_init_87 rfl ac_boolean (by decide) (by decide) (by decide) (fun _ => rfl) rfl ?_
  have hT1 := cT_nw (C := C) (t := 22) (n := 3) hT0
  have hT2 := cT.le (C := C) hT0 (cle_nw C 22 3)
  refine cr_prF (r := (some C.1)) (C2 := (csr (cnw C 22 3) t 12 (some C.1))) dX10_init_89 rfl pw_10_41 rfl (Or.inr ⟨_, rfl⟩) hT2 rfl ?_
  exact h
set_option maxRecDepth 20000 in
set_option maxHeartbeats 4000000 in
theorem w_X10_init_92 {c : cX} {d : Nat} {C : cS} {K : Option Value → cS → Prop} (t : Nat) (hT0 : cT C t 10 59) (h : cG c eX10_init (d + 1) (cQ K) 99 [some (.ref t), none] [] (csr (cnw C 20 3) t 13 (some C.1))) : cG c eX10_init (d + 1) (cQ K) 92 [some (.ref t), none] [] C := by
  refine ag_aload_n dX10_init_92 rfl (Or.inr ⟨_, rfl⟩) ?_
  refine ag_iconst (v := 3) dX10_init_93 rfl ?_
  refine cr_newa (t := 20) (C2 := (cnw C 20 3)) dX10_init_94 rfl ac_int (by decide) (by decide) (by decide) (fun _ => rfl) rfl ?_
  have hT1 := cT_nw (C := C) (t := 20) (n := 3) hT0
  have hT2 := cT.le (C := C) hT0 (cle_nw C 20 3)
  refine cr_prF (r := (some C.1)) (C2 := (csr (cnw C 20 3) t 13 (some C.1))) dX10_init_96 rfl pw_10_45 rfl (Or.inr ⟨_, rfl⟩) hT2 rfl ?_
  exact h
set_option maxRecDepth 20000 in
set_option maxHeartbeats 4000000 in
theorem w_X10_init_99 {c : cX} {d : Nat} {C : cS} {K : Option Value → cS → Prop} (t : Nat) (hT0 : cT C t 10 59) (h : cG c eX10_init (d + 1) (cQ K) 106 [some (.ref t), none] [] (csr (cnw C 20 3) t 14 (some C.1))) : cG c eX10_init (d + 1) (cQ K) 99 [some (.ref t), none] [] C := by
  refine ag_aload_n dX10_init_99 rfl (Or.inr ⟨_, rfl⟩) ?_
  refine ag_iconst (v := 3) dX10_init_100 rfl ?_
  refine cr_newa (t := 20) (C2 := (cnw C 20 3)) dX10_init_101 rfl ac_int (by decide) (by decide) (by decide) (fun _ => rfl) rfl ?_
  have hT1 := cT_nw (C := C) (t := 20) (n := 3) hT0
  have hT2 := cT.le (C := C) hT0 (cle_nw C 20 3)
  refine cr_prF (r := (some C.1)) (C2 := (csr (cnw C 20 3) t 14 (some C.1))) dX10_init_103 rfl pw_10_48 rfl (Or.inr ⟨_, rfl⟩) hT2 rfl ?_
  exact h
set_option maxRecDepth 20000 in
set_option maxHeartbeats 4000000 in
theorem w_X10_init_106 {c : cX} {d : Nat} {C : cS} {K : Option Value → cS → Prop} (t : Nat) (hT0 : cT C t 10 59) (h : cG c eX10_init (d + 1) (cQ K) 113 [some (.ref t), none] [] (csr (cnw C 20 3) t 15 (some C.1))) : cG c eX10_init (d + 1) (cQ K) 106 [some (.ref t), none] [] C := by
  refine ag_aload_n dX10_init_106 rfl (Or.inr ⟨_, rfl⟩) ?_
  refine ag_iconst (v := 3) dX10_init_107 rfl ?_
  refine cr_newa (t := 20) (C2 := (cnw C 20 3)) dX10_init_108 rfl ac_int (by decide) (by decide) (by decide) (fun _ => rfl) rfl ?_
  have hT1 := cT_nw (C := C) (t := 20) (n := 3) hT0
  have hT2 := cT.le (C := C) hT0 (cle_nw C 20 3)
  refine cr_prF (r := (some C.1)) (C2 := (csr (cnw C 20 3) t 15 (some C.1))) dX10_init_110 rfl pw_10_51 rfl (Or.inr ⟨_, rfl⟩) hT2 rfl ?_
  exact h
set_option maxRecDepth 20000 in
set_option maxHeartbeats 4000000 in
theorem w_X10_init_113 {c : cX} {d : Nat} {C : cS} {K : Option Value → cS → Prop} (t : Nat) (hT0 : cT C t 10 59) (h : cG c eX10_init (d + 1) (cQ K) 121 [some (.ref t), none] [] (csr (cnw C 20 21) t 16 (some C.1))) : cG c eX10_init (d + 1) (cQ K) 113 [some (.ref t), none] [] C := by
  refine ag_aload_n dX10_init_113 rfl (Or.inr ⟨_, rfl⟩) ?_
  refine ag_bipush (v := 21) dX10_init_114 (by decide) ?_
  refine cr_newa (t := 20) (C2 := (cnw C 20 21)) dX10_init_116 rfl ac_int (by decide) (by decide) (by decide) (fun _ => rfl) rfl ?_
  have hT1 := cT_nw (C := C) (t := 20) (n := 21) hT0
  have hT2 := cT.le (C := C) hT0 (cle_nw C 20 21)
  refine cr_prF (r := (some C.1)) (C2 := (csr (cnw C 20 21) t 16 (some C.1))) dX10_init_118 rfl pw_10_54 rfl (Or.inr ⟨_, rfl⟩) hT2 rfl ?_
  exact h
set_option maxRecDepth 20000 in
set_option maxHeartbeats 4000000 in
theorem w_X10_init_121 {c : cX} {d : Nat} {C : cS} {K : Option Value → cS → Prop} (t : Nat) (hT0 : cT C t 10 59) (h : cG c eX10_init (d + 1) (cQ K) 129 [some (.ref t), none] [] (csr (cnw C 20 21) t 17 (some C.1))) : cG c eX10_init (d + 1) (cQ K) 121 [some (.ref t), none] [] C := by
  refine ag_aload_n dX10_init_121 rfl (Or.inr ⟨_, rfl⟩) ?_
  refine ag_bipush (v := 21) dX10_init_122 (by decide) ?_
  refine cr_newa (t := 20) (C2 := (cnw C 20 21)) dX10_init_124 rfl ac_int (by decide) (by decide) (by decide) (fun _ => rfl) rfl ?_
  have hT1 := cT_nw (C := C) (t := 20) (n := 21) hT0
  have hT2 := cT.le (C := C) hT0 (cle_nw C 20 21)
  refine cr_prF (r := (some C.1)) (C2 := (csr (cnw C 20 21) t 17 (some C.1))) dX10_init_126 rfl pw_10_57 rfl (Or.inr ⟨_, rfl⟩) hT2 rfl ?_
  exact h
set_option maxRecDepth 20000 in
set_option maxHeartbeats 4000000 in
theorem w_X10_init_129 {c : cX} {d : Nat} {C : cS} {K : Option Value → cS → Prop} (t : Nat) (hT0 : cT C t 10 59) (h : cG c eX10_init (d + 1) (cQ K) 137 [some (.ref t), none] [] (csr (cnw C 20 8) t 24 (some C.1))) : cG c eX10_init (d + 1) (cQ K) 129 [some (.ref t), none] [] C := by
  refine ag_aload_n dX10_init_129 rfl (Or.inr ⟨_, rfl⟩) ?_
  refine ag_bipush (v := 8) dX10_init_130 (by decide) ?_
  refine cr_newa (t := 20) (C2 := (cnw C 20 8)) dX10_init_132 rfl ac_int (by decide) (by decide) (by decide) (fun _ => rfl) rfl ?_
  have hT1 := cT_nw (C := C) (t := 20) (n := 8) hT0
  have hT2 := cT.le (C := C) hT0 (cle_nw C 20 8)
  refine cr_prF (r := (some C.1)) (C2 := (csr (cnw C 20 8) t 24 (some C.1))) dX10_init_134 rfl pw_10_60 rfl (Or.inr ⟨_, rfl⟩) hT2 rfl ?_
  exact h
set_option maxRecDepth 20000 in
set_option maxHeartbeats 4000000 in
theorem w_X10_init_137 {c : cX} {d : Nat} {C : cS} {K : Option Value → cS → Prop} (t : Nat) (hT0 : cT C t 10 59) (h : cG c eX10_init (d + 1) (cQ K) 145 [some (.ref t), none] [] (csr (cnw C 20 80) t 25 (some C.1))) : cG c eX10_init (d + 1) (cQ K) 137 [some (.ref t), none] [] C := by
  refine ag_aload_n dX10_init_137 rfl (Or.inr ⟨_, rfl⟩) ?_
  refine ag_bipush (v := 80) dX10_init_138 (by decide) ?_
  refine cr_newa (t := 20) (C2 := (cnw C 20 80)) dX10_init_140 rfl ac_int (by decide) (by decide) (by decide) (fun _ => rfl) rfl ?_
  have hT1 := cT_nw (C := C) (t := 20) (n := 80) hT0
  have hT2 := cT.le (C := C) hT0 (cle_nw C 20 80)
  refine cr_prF (r := (some C.1)) (C2 := (csr (cnw C 20 80) t 25 (some C.1))) dX10_init_142 rfl pw_10_63 rfl (Or.inr ⟨_, rfl⟩) hT2 rfl ?_
  exact h
set_option maxRecDepth 20000 in
set_option maxHeartbeats 4000000 in
theorem w_X10_init_145 {c : cX} {d : Nat} {C : cS} {K : Option Value → cS → Prop} (t : Nat) (hT0 : cT C t 10 59) (h : cG c eX10_init (d + 1) (cQ K) 154 [some (.ref t), none] [] (csr (cnw C 21 320) t 26 (some C.1))) : cG c eX10_init (d + 1) (cQ K) 145 [some (.ref t), none] [] C := by
  refine ag_aload_n dX10_init_145 rfl (Or.inr ⟨_, rfl⟩) ?_
  refine ag_sipush (v := 320) dX10_init_146 (by decide) ?_
  refine cr_newa (t := 21) (C2 := (cnw C 21 320)) dX10_init_149 rfl ac_long (by decide) (by decide) (by decide) (fun _ => rfl) rfl ?_
  have hT1 := cT_nw (C := C) (t := 21) (n := 320) hT0
  have hT2 := cT.le (C := C) hT0 (cle_nw C 21 320)
  refine cr_prF (r := (some C.1)) (C2 := (csr (cnw C 21 320) t 26 (some C.1))) dX10_init_151 rfl pw_10_66 rfl (Or.inr ⟨_, rfl⟩) hT2 rfl ?_
  exact h
set_option maxRecDepth 20000 in
set_option maxHeartbeats 4000000 in
theorem w_X10_init_154 {c : cX} {d : Nat} {C : cS} {K : Option Value → cS → Prop} (t : Nat) (hT0 : cT C t 10 59) (h : cG c eX10_init (d + 1) (cQ K) 163 [some (.ref t), none] [] (csr (cnw C 21 320) t 27 (some C.1))) : cG c eX10_init (d + 1) (cQ K) 154 [some (.ref t), none] [] C := by
  refine ag_aload_n dX10_init_154 rfl (Or.inr ⟨_, rfl⟩) ?_
  refine ag_sipush (v := 320) dX10_init_155 (by decide) ?_
  refine cr_newa (t := 21) (C2 := (cnw C 21 320)) dX10_init_158 rfl ac_long (by decide) (by decide) (by decide) (fun _ => rfl) rfl ?_
  have hT1 := cT_nw (C := C) (t := 21) (n := 320) hT0
  have hT2 := cT.le (C := C) hT0 (cle_nw C 21 320)
  refine cr_prF (r := (some C.1)) (C2 := (csr (cnw C 21 320) t 27 (some C.1))) dX10_init_160 rfl pw_10_70 rfl (Or.inr ⟨_, rfl⟩) hT2 rfl ?_
  exact h
set_option maxRecDepth 20000 in
set_option maxHeartbeats 4000000 in
theorem w_X10_init_163 {c : cX} {d : Nat} {C : cS} {K : Option Value → cS → Prop} (t : Nat) (hT0 : cT C t 10 59) (h : cG c eX10_init (d + 1) (cQ K) 172 [some (.ref t), none] [] (csr (cnw C 21 320) t 28 (some C.1))) : cG c eX10_init (d + 1) (cQ K) 163 [some (.ref t), none] [] C := by
  refine ag_aload_n dX10_init_163 rfl (Or.inr ⟨_, rfl⟩) ?_
  refine ag_sipush (v := 320) dX10_init_164 (by decide) ?_
  refine cr_newa (t := 21) (C2 := (cnw C 21 320)) dX10_init_167 rfl ac_long (by decide) (by decide) (by decide) (fun _ => rfl) rfl ?_
  have hT1 := cT_nw (C := C) (t := 21) (n := 320) hT0
  have hT2 := cT.le (C := C) hT0 (cle_nw C 21 320)
  refine cr_prF (r := (some C.1)) (C2 := (csr (cnw C 21 320) t 28 (some C.1))) dX10_init_169 rfl pw_10_73 rfl (Or.inr ⟨_, rfl⟩) hT2 rfl ?_
  exact h
set_option maxRecDepth 20000 in
set_option maxHeartbeats 4000000 in
theorem w_X10_init_172 {c : cX} {d : Nat} {C : cS} {K : Option Value → cS → Prop} (t : Nat) (hT0 : cT C t 10 59) (h : cG c eX10_init (d + 1) (cQ K) 180 [some (.ref t), none] [] (csr (cnw C 20 64) t 29 (some C.1))) : cG c eX10_init (d + 1) (cQ K) 172 [some (.ref t), none] [] C := by
  refine ag_aload_n dX10_init_172 rfl (Or.inr ⟨_, rfl⟩) ?_
  refine ag_bipush (v := 64) dX10_init_173 (by decide) ?_
  refine cr_newa (t := 20) (C2 := (cnw C 20 64)) dX10_init_175 rfl ac_int (by decide) (by decide) (by decide) (fun _ => rfl) rfl ?_
  have hT1 := cT_nw (C := C) (t := 20) (n := 64) hT0
  have hT2 := cT.le (C := C) hT0 (cle_nw C 20 64)
  refine cr_prF (r := (some C.1)) (C2 := (csr (cnw C 20 64) t 29 (some C.1))) dX10_init_177 rfl pw_10_76 rfl (Or.inr ⟨_, rfl⟩) hT2 rfl ?_
  exact h
set_option maxRecDepth 20000 in
set_option maxHeartbeats 4000000 in
theorem w_X10_init_180 {c : cX} {d : Nat} {C : cS} {K : Option Value → cS → Prop} (t : Nat) (hT0 : cT C t 10 59) (h : cG c eX10_init (d + 1) (cQ K) 188 [some (.ref t), none] [] (csr (cnw C 20 64) t 30 (some C.1))) : cG c eX10_init (d + 1) (cQ K) 180 [some (.ref t), none] [] C := by
  refine ag_aload_n dX10_init_180 rfl (Or.inr ⟨_, rfl⟩) ?_
  refine ag_bipush (v := 64) dX10_init_181 (by decide) ?_
  refine cr_newa (t := 20) (C2 := (cnw C 20 64)) dX10_init_183 rfl ac_int (by decide) (by decide) (by decide) (fun _ => rfl) rfl ?_
  have hT1 := cT_nw (C := C) (t := 20) (n := 64) hT0
  have hT2 := cT.le (C := C) hT0 (cle_nw C 20 64)
  refine cr_prF (r := (some C.1)) (C2 := (csr (cnw C 20 64) t 30 (some C.1))) dX10_init_185 rfl pw_10_79 rfl (Or.inr ⟨_, rfl⟩) hT2 rfl ?_
  exact h
set_option maxRecDepth 20000 in
set_option maxHeartbeats 4000000 in
theorem w_X10_init_188 {c : cX} {d : Nat} {C : cS} {K : Option Value → cS → Prop} (t : Nat) (hT0 : cT C t 10 59) (h : cG c eX10_init (d + 1) (cQ K) 196 [some (.ref t), none] [] (csr (cnw C 20 80) t 31 (some C.1))) : cG c eX10_init (d + 1) (cQ K) 188 [some (.ref t), none] [] C := by
  refine ag_aload_n dX10_init_188 rfl (Or.inr ⟨_, rfl⟩) ?_
  refine ag_bipush (v := 80) dX10_init_189 (by decide) ?_
  refine cr_newa (t := 20) (C2 := (cnw C 20 80)) dX10_init_191 rfl ac_int (by decide) (by decide) (by decide) (fun _ => rfl) rfl ?_
  have hT1 := cT_nw (C := C) (t := 20) (n := 80) hT0
  have hT2 := cT.le (C := C) hT0 (cle_nw C 20 80)
  refine cr_prF (r := (some C.1)) (C2 := (csr (cnw C 20 80) t 31 (some C.1))) dX10_init_193 rfl pw_10_82 rfl (Or.inr ⟨_, rfl⟩) hT2 rfl ?_
  exact h
set_option maxRecDepth 20000 in
set_option maxHeartbeats 4000000 in
theorem w_X10_init_196 {c : cX} {d : Nat} {C : cS} {K : Option Value → cS → Prop} (t : Nat) (hT0 : cT C t 10 59) (h : cG c eX10_init (d + 1) (cQ K) 204 [some (.ref t), none] [] (csr (cnw C 20 8) t 32 (some C.1))) : cG c eX10_init (d + 1) (cQ K) 196 [some (.ref t), none] [] C := by
  refine ag_aload_n dX10_init_196 rfl (Or.inr ⟨_, rfl⟩) ?_
  refine ag_bipush (v := 8) dX10_init_197 (by decide) ?_
  refine cr_newa (t := 20) (C2 := (cnw C 20 8)) dX10_init_199 rfl ac_int (by decide) (by decide) (by decide) (fun _ => rfl) rfl ?_
  have hT1 := cT_nw (C := C) (t := 20) (n := 8) hT0
  have hT2 := cT.le (C := C) hT0 (cle_nw C 20 8)
  refine cr_prF (r := (some C.1)) (C2 := (csr (cnw C 20 8) t 32 (some C.1))) dX10_init_201 rfl pw_10_85 rfl (Or.inr ⟨_, rfl⟩) hT2 rfl ?_
  exact h
set_option maxRecDepth 20000 in
set_option maxHeartbeats 4000000 in
theorem w_X10_init_204 {c : cX} {d : Nat} {C : cS} {K : Option Value → cS → Prop} (t : Nat) (hT0 : cT C t 10 59) (h : cG c eX10_init (d + 1) (cQ K) 212 [some (.ref t), none] [] (csr (cnw C 22 8) t 33 (some C.1))) : cG c eX10_init (d + 1) (cQ K) 204 [some (.ref t), none] [] C := by
  refine ag_aload_n dX10_init_204 rfl (Or.inr ⟨_, rfl⟩) ?_
  refine ag_bipush (v := 8) dX10_init_205 (by decide) ?_
  refine cr_newa (t := 22) (C2 := (cnw C 22 8)) dX10_init_207 rfl ac_boolean (by decide) (by decide) (by decide) (fun _ => rfl) rfl ?_
  have hT1 := cT_nw (C := C) (t := 22) (n := 8) hT0
  have hT2 := cT.le (C := C) hT0 (cle_nw C 22 8)
  refine cr_prF (r := (some C.1)) (C2 := (csr (cnw C 22 8) t 33 (some C.1))) dX10_init_209 rfl pw_10_88 rfl (Or.inr ⟨_, rfl⟩) hT2 rfl ?_
  exact h
set_option maxRecDepth 20000 in
set_option maxHeartbeats 4000000 in
theorem w_X10_init_212 {c : cX} {d : Nat} {C : cS} {K : Option Value → cS → Prop} (t : Nat) (hT0 : cT C t 10 59) (h : cG c eX10_init (d + 1) (cQ K) 220 [some (.ref t), none] [] (csr (cnw C 21 40) t 34 (some C.1))) : cG c eX10_init (d + 1) (cQ K) 212 [some (.ref t), none] [] C := by
  refine ag_aload_n dX10_init_212 rfl (Or.inr ⟨_, rfl⟩) ?_
  refine ag_bipush (v := 40) dX10_init_213 (by decide) ?_
  refine cr_newa (t := 21) (C2 := (cnw C 21 40)) dX10_init_215 rfl ac_long (by decide) (by decide) (by decide) (fun _ => rfl) rfl ?_
  have hT1 := cT_nw (C := C) (t := 21) (n := 40) hT0
  have hT2 := cT.le (C := C) hT0 (cle_nw C 21 40)
  refine cr_prF (r := (some C.1)) (C2 := (csr (cnw C 21 40) t 34 (some C.1))) dX10_init_217 rfl pw_10_91 rfl (Or.inr ⟨_, rfl⟩) hT2 rfl ?_
  exact h
set_option maxRecDepth 20000 in
set_option maxHeartbeats 4000000 in
theorem w_X10_init_220 {c : cX} {d : Nat} {C : cS} {K : Option Value → cS → Prop} (t : Nat) (hT0 : cT C t 10 59) (h : cG c eX10_init (d + 1) (cQ K) 228 [some (.ref t), none] [] (csr (cnw C 21 40) t 35 (some C.1))) : cG c eX10_init (d + 1) (cQ K) 220 [some (.ref t), none] [] C := by
  refine ag_aload_n dX10_init_220 rfl (Or.inr ⟨_, rfl⟩) ?_
  refine ag_bipush (v := 40) dX10_init_221 (by decide) ?_
  refine cr_newa (t := 21) (C2 := (cnw C 21 40)) dX10_init_223 rfl ac_long (by decide) (by decide) (by decide) (fun _ => rfl) rfl ?_
  have hT1 := cT_nw (C := C) (t := 21) (n := 40) hT0
  have hT2 := cT.le (C := C) hT0 (cle_nw C 21 40)
  refine cr_prF (r := (some C.1)) (C2 := (csr (cnw C 21 40) t 35 (some C.1))) dX10_init_225 rfl pw_10_94 rfl (Or.inr ⟨_, rfl⟩) hT2 rfl ?_
  exact h
set_option maxRecDepth 20000 in
set_option maxHeartbeats 4000000 in
theorem w_X10_init_228 {c : cX} {d : Nat} {C : cS} {K : Option Value → cS → Prop} (t : Nat) (hT0 : cT C t 10 59) (h : cG c eX10_init (d + 1) (cQ K) 235 [some (.ref t), none] [] (csr (cnw C 21 5) t 36 (some C.1))) : cG c eX10_init (d + 1) (cQ K) 228 [some (.ref t), none] [] C := by
  refine ag_aload_n dX10_init_228 rfl (Or.inr ⟨_, rfl⟩) ?_
  refine ag_iconst (v := 5) dX10_init_229 rfl ?_
  refine cr_newa (t := 21) (C2 := (cnw C 21 5)) dX10_init_230 rfl ac_long (by decide) (by decide) (by decide) (fun _ => rfl) rfl ?_
  have hT1 := cT_nw (C := C) (t := 21) (n := 5) hT0
  have hT2 := cT.le (C := C) hT0 (cle_nw C 21 5)
  refine cr_prF (r := (some C.1)) (C2 := (csr (cnw C 21 5) t 36 (some C.1))) dX10_init_232 rfl pw_10_97 rfl (Or.inr ⟨_, rfl⟩) hT2 rfl ?_
  exact h
set_option maxRecDepth 20000 in
set_option maxHeartbeats 4000000 in
theorem w_X10_init_235 {c : cX} {d : Nat} {C : cS} {K : Option Value → cS → Prop} (t : Nat) (hT0 : cT C t 10 59) (h : cG c eX10_init (d + 1) (cQ K) 242 [some (.ref t), none] [] (csr (cnw C 21 5) t 37 (some C.1))) : cG c eX10_init (d + 1) (cQ K) 235 [some (.ref t), none] [] C := by
  refine ag_aload_n dX10_init_235 rfl (Or.inr ⟨_, rfl⟩) ?_
  refine ag_iconst (v := 5) dX10_init_236 rfl ?_
  refine cr_newa (t := 21) (C2 := (cnw C 21 5)) dX10_init_237 rfl ac_long (by decide) (by decide) (by decide) (fun _ => rfl) rfl ?_
  have hT1 := cT_nw (C := C) (t := 21) (n := 5) hT0
  have hT2 := cT.le (C := C) hT0 (cle_nw C 21 5)
  refine cr_prF (r := (some C.1)) (C2 := (csr (cnw C 21 5) t 37 (some C.1))) dX10_init_239 rfl pw_10_100 rfl (Or.inr ⟨_, rfl⟩) hT2 rfl ?_
  exact h
set_option maxRecDepth 20000 in
set_option maxHeartbeats 4000000 in
theorem w_X10_init_242 {c : cX} {d : Nat} {C : cS} {K : Option Value → cS → Prop} (t : Nat) (hT0 : cT C t 10 59) (h : cG c eX10_init (d + 1) (cQ K) 248 [some (.ref t), none] [] (csi C t 40 13)) : cG c eX10_init (d + 1) (cQ K) 242 [some (.ref t), none] [] C := by
  refine ag_aload_n dX10_init_242 rfl (Or.inr ⟨_, rfl⟩) ?_
  refine ag_bipush (v := 13) dX10_init_243 (by decide) ?_
  refine cr_pi (C2 := (csi C t 40 13)) dX10_init_245 pw_10_103 rfl hT0 (fun _ => ⟨rfl, rfl⟩) rfl ?_
  exact h
set_option maxRecDepth 20000 in
set_option maxHeartbeats 4000000 in
theorem w_X10_init_248 {c : cX} {d : Nat} {C : cS} {K : Option Value → cS → Prop} (t : Nat) (hT0 : cT C t 10 59) (h : cG c eX10_init (d + 1) (cQ K) 256 [some (.ref t), none] [] (csr (cnw C 20 64) t 41 (some C.1))) : cG c eX10_init (d + 1) (cQ K) 248 [some (.ref t), none] [] C := by
  refine ag_aload_n dX10_init_248 rfl (Or.inr ⟨_, rfl⟩) ?_
  refine ag_bipush (v := 64) dX10_init_249 (by decide) ?_
  refine cr_newa (t := 20) (C2 := (cnw C 20 64)) dX10_init_251 rfl ac_int (by decide) (by decide) (by decide) (fun _ => rfl) rfl ?_
  have hT1 := cT_nw (C := C) (t := 20) (n := 64) hT0
  have hT2 := cT.le (C := C) hT0 (cle_nw C 20 64)
  refine cr_prF (r := (some C.1)) (C2 := (csr (cnw C 20 64) t 41 (some C.1))) dX10_init_253 rfl pw_10_106 rfl (Or.inr ⟨_, rfl⟩) hT2 rfl ?_
  exact h
set_option maxRecDepth 20000 in
set_option maxHeartbeats 4000000 in
theorem w_X10_init_256 {c : cX} {d : Nat} {C : cS} {K : Option Value → cS → Prop} (t : Nat) (hT0 : cT C t 10 59) (h : cG c eX10_init (d + 1) (cQ K) 264 [some (.ref t), none] [] (csr (cnw C 20 64) t 42 (some C.1))) : cG c eX10_init (d + 1) (cQ K) 256 [some (.ref t), none] [] C := by
  refine ag_aload_n dX10_init_256 rfl (Or.inr ⟨_, rfl⟩) ?_
  refine ag_bipush (v := 64) dX10_init_257 (by decide) ?_
  refine cr_newa (t := 20) (C2 := (cnw C 20 64)) dX10_init_259 rfl ac_int (by decide) (by decide) (by decide) (fun _ => rfl) rfl ?_
  have hT1 := cT_nw (C := C) (t := 20) (n := 64) hT0
  have hT2 := cT.le (C := C) hT0 (cle_nw C 20 64)
  refine cr_prF (r := (some C.1)) (C2 := (csr (cnw C 20 64) t 42 (some C.1))) dX10_init_261 rfl pw_10_109 rfl (Or.inr ⟨_, rfl⟩) hT2 rfl ?_
  exact h
set_option maxRecDepth 20000 in
set_option maxHeartbeats 4000000 in
theorem w_X10_init_264 {c : cX} {d : Nat} {C : cS} {K : Option Value → cS → Prop} (t : Nat) (hT0 : cT C t 10 59) (h : cG c eX10_init (d + 1) (cQ K) 272 [some (.ref t), none] [] (csr (cnw C 20 64) t 43 (some C.1))) : cG c eX10_init (d + 1) (cQ K) 264 [some (.ref t), none] [] C := by
  refine ag_aload_n dX10_init_264 rfl (Or.inr ⟨_, rfl⟩) ?_
  refine ag_bipush (v := 64) dX10_init_265 (by decide) ?_
  refine cr_newa (t := 20) (C2 := (cnw C 20 64)) dX10_init_267 rfl ac_int (by decide) (by decide) (by decide) (fun _ => rfl) rfl ?_
  have hT1 := cT_nw (C := C) (t := 20) (n := 64) hT0
  have hT2 := cT.le (C := C) hT0 (cle_nw C 20 64)
  refine cr_prF (r := (some C.1)) (C2 := (csr (cnw C 20 64) t 43 (some C.1))) dX10_init_269 rfl pw_10_112 rfl (Or.inr ⟨_, rfl⟩) hT2 rfl ?_
  exact h
set_option maxRecDepth 20000 in
set_option maxHeartbeats 4000000 in
theorem w_X10_init_272 {c : cX} {d : Nat} {C : cS} {K : Option Value → cS → Prop} (t : Nat) (hT0 : cT C t 10 59) (h : cG c eX10_init (d + 1) (cQ K) 280 [some (.ref t), none] [] (csr (cnw C 20 64) t 44 (some C.1))) : cG c eX10_init (d + 1) (cQ K) 272 [some (.ref t), none] [] C := by
  refine ag_aload_n dX10_init_272 rfl (Or.inr ⟨_, rfl⟩) ?_
  refine ag_bipush (v := 64) dX10_init_273 (by decide) ?_
  refine cr_newa (t := 20) (C2 := (cnw C 20 64)) dX10_init_275 rfl ac_int (by decide) (by decide) (by decide) (fun _ => rfl) rfl ?_
  have hT1 := cT_nw (C := C) (t := 20) (n := 64) hT0
  have hT2 := cT.le (C := C) hT0 (cle_nw C 20 64)
  refine cr_prF (r := (some C.1)) (C2 := (csr (cnw C 20 64) t 44 (some C.1))) dX10_init_277 rfl pw_10_115 rfl (Or.inr ⟨_, rfl⟩) hT2 rfl ?_
  exact h
set_option maxRecDepth 20000 in
set_option maxHeartbeats 4000000 in
theorem w_X10_init_280 {c : cX} {d : Nat} {C : cS} {K : Option Value → cS → Prop} (t : Nat) (hT0 : cT C t 10 59) (h : cG c eX10_init (d + 1) (cQ K) 295 [some (.ref t), none] [] (csr (csi (csi (cnw C 20 2) C.1 0 2) C.1 1 2) t 45 (some C.1))) : cG c eX10_init (d + 1) (cQ K) 280 [some (.ref t), none] [] C := by
  refine ag_aload_n dX10_init_280 rfl (Or.inr ⟨_, rfl⟩) ?_
  refine ag_iconst (v := 2) dX10_init_281 rfl ?_
  refine cr_newa (t := 20) (C2 := (cnw C 20 2)) dX10_init_282 rfl ac_int (by decide) (by decide) (by decide) (fun _ => rfl) rfl ?_
  have hT1 := cT_nw (C := C) (t := 20) (n := 2) hT0
  have hT2 := cT.le (C := C) hT0 (cle_nw C 20 2)
  refine ag_dup dX10_init_284 rfl ?_
  refine ag_iconst (v := 0) dX10_init_285 rfl ?_
  refine ag_iconst (v := 2) dX10_init_286 rfl ?_
  refine cr_is (C2 := (csi (cnw C 20 2) C.1 0 2)) dX10_init_287 hT1 ⟨by decide, by decide, by decide⟩ rfl ?_
  refine ag_dup dX10_init_288 rfl ?_
  refine ag_iconst (v := 1) dX10_init_289 rfl ?_
  refine ag_iconst (v := 2) dX10_init_290 rfl ?_
  refine cr_is (C2 := (csi (csi (cnw C 20 2) C.1 0 2) C.1 1 2)) dX10_init_291 hT1 ⟨by decide, by decide, by decide⟩ rfl ?_
  refine cr_prF (r := (some C.1)) (C2 := (csr (csi (csi (cnw C 20 2) C.1 0 2) C.1 1 2) t 45 (some C.1))) dX10_init_292 rfl pw_10_118 rfl (Or.inr ⟨_, rfl⟩) hT2 rfl ?_
  exact h
set_option maxRecDepth 20000 in
set_option maxHeartbeats 4000000 in
theorem w_X10_init_295 {c : cX} {d : Nat} {C : cS} {K : Option Value → cS → Prop} (t : Nat) (hT0 : cT C t 10 59) (h : cG c eX10_init (d + 1) (cQ K) 300 [some (.ref t), none] [] (csi C t 47 (-1))) : cG c eX10_init (d + 1) (cQ K) 295 [some (.ref t), none] [] C := by
  refine ag_aload_n dX10_init_295 rfl (Or.inr ⟨_, rfl⟩) ?_
  refine ag_iconst (v := (-1)) dX10_init_296 rfl ?_
  refine cr_pi (C2 := (csi C t 47 (-1))) dX10_init_297 pw_10_121 rfl hT0 (fun _ => ⟨rfl, rfl⟩) rfl ?_
  exact h
set_option maxRecDepth 20000 in
set_option maxHeartbeats 4000000 in
theorem w_X10_init_300 {c : cX} {d : Nat} {C : cS} {K : Option Value → cS → Prop} (t : Nat) (hT0 : cT C t 10 59) (h : cG c eX10_init (d + 1) (cQ K) 308 [some (.ref t), none] [] (csr (cnw C 20 80) t 51 (some C.1))) : cG c eX10_init (d + 1) (cQ K) 300 [some (.ref t), none] [] C := by
  refine ag_aload_n dX10_init_300 rfl (Or.inr ⟨_, rfl⟩) ?_
  refine ag_bipush (v := 80) dX10_init_301 (by decide) ?_
  refine cr_newa (t := 20) (C2 := (cnw C 20 80)) dX10_init_303 rfl ac_int (by decide) (by decide) (by decide) (fun _ => rfl) rfl ?_
  have hT1 := cT_nw (C := C) (t := 20) (n := 80) hT0
  have hT2 := cT.le (C := C) hT0 (cle_nw C 20 80)
  refine cr_prF (r := (some C.1)) (C2 := (csr (cnw C 20 80) t 51 (some C.1))) dX10_init_305 rfl pw_10_124 rfl (Or.inr ⟨_, rfl⟩) hT2 rfl ?_
  exact h
set_option maxRecDepth 20000 in
set_option maxHeartbeats 4000000 in
theorem w_X10_init_308 {c : cX} {d : Nat} {C : cS} {K : Option Value → cS → Prop} (t : Nat) (hT0 : cT C t 10 59) (h : cG c eX10_init (d + 1) (cQ K) 316 [some (.ref t), none] [] (csr (cnw C 20 80) t 52 (some C.1))) : cG c eX10_init (d + 1) (cQ K) 308 [some (.ref t), none] [] C := by
  refine ag_aload_n dX10_init_308 rfl (Or.inr ⟨_, rfl⟩) ?_
  refine ag_bipush (v := 80) dX10_init_309 (by decide) ?_
  refine cr_newa (t := 20) (C2 := (cnw C 20 80)) dX10_init_311 rfl ac_int (by decide) (by decide) (by decide) (fun _ => rfl) rfl ?_
  have hT1 := cT_nw (C := C) (t := 20) (n := 80) hT0
  have hT2 := cT.le (C := C) hT0 (cle_nw C 20 80)
  refine cr_prF (r := (some C.1)) (C2 := (csr (cnw C 20 80) t 52 (some C.1))) dX10_init_313 rfl pw_10_127 rfl (Or.inr ⟨_, rfl⟩) hT2 rfl ?_
  exact h
set_option maxRecDepth 20000 in
set_option maxHeartbeats 4000000 in
theorem w_X10_init_316 {c : cX} {d : Nat} {C : cS} {K : Option Value → cS → Prop} (t : Nat) (hT0 : cT C t 10 59) (h : cG c eX10_init (d + 1) (cQ K) 324 [some (.ref t), none] [] (csr (cnw C 20 80) t 53 (some C.1))) : cG c eX10_init (d + 1) (cQ K) 316 [some (.ref t), none] [] C := by
  refine ag_aload_n dX10_init_316 rfl (Or.inr ⟨_, rfl⟩) ?_
  refine ag_bipush (v := 80) dX10_init_317 (by decide) ?_
  refine cr_newa (t := 20) (C2 := (cnw C 20 80)) dX10_init_319 rfl ac_int (by decide) (by decide) (by decide) (fun _ => rfl) rfl ?_
  have hT1 := cT_nw (C := C) (t := 20) (n := 80) hT0
  have hT2 := cT.le (C := C) hT0 (cle_nw C 20 80)
  refine cr_prF (r := (some C.1)) (C2 := (csr (cnw C 20 80) t 53 (some C.1))) dX10_init_321 rfl pw_10_130 rfl (Or.inr ⟨_, rfl⟩) hT2 rfl ?_
  exact h
set_option maxRecDepth 20000 in
set_option maxHeartbeats 4000000 in
theorem w_X10_init_324 {c : cX} {d : Nat} {C : cS} {K : Option Value → cS → Prop} (t : Nat) (hT0 : cT C t 10 59) (h : cG c eX10_init (d + 1) (cQ K) 332 [some (.ref t), none] [] (csr (cnw C 20 80) t 54 (some C.1))) : cG c eX10_init (d + 1) (cQ K) 324 [some (.ref t), none] [] C := by
  refine ag_aload_n dX10_init_324 rfl (Or.inr ⟨_, rfl⟩) ?_
  refine ag_bipush (v := 80) dX10_init_325 (by decide) ?_
  refine cr_newa (t := 20) (C2 := (cnw C 20 80)) dX10_init_327 rfl ac_int (by decide) (by decide) (by decide) (fun _ => rfl) rfl ?_
  have hT1 := cT_nw (C := C) (t := 20) (n := 80) hT0
  have hT2 := cT.le (C := C) hT0 (cle_nw C 20 80)
  refine cr_prF (r := (some C.1)) (C2 := (csr (cnw C 20 80) t 54 (some C.1))) dX10_init_329 rfl pw_10_133 rfl (Or.inr ⟨_, rfl⟩) hT2 rfl ?_
  exact h
set_option maxRecDepth 20000 in
set_option maxHeartbeats 4000000 in
theorem w_X10_init_332 {c : cX} {d : Nat} {C : cS} {K : Option Value → cS → Prop} (t : Nat) (hT0 : cT C t 10 59) (h : cG c eX10_init (d + 1) (cQ K) 340 [some (.ref t), none] [] (csr (cnw C 20 40) t 55 (some C.1))) : cG c eX10_init (d + 1) (cQ K) 332 [some (.ref t), none] [] C := by
  refine ag_aload_n dX10_init_332 rfl (Or.inr ⟨_, rfl⟩) ?_
  refine ag_bipush (v := 40) dX10_init_333 (by decide) ?_
  refine cr_newa (t := 20) (C2 := (cnw C 20 40)) dX10_init_335 rfl ac_int (by decide) (by decide) (by decide) (fun _ => rfl) rfl ?_
  have hT1 := cT_nw (C := C) (t := 20) (n := 40) hT0
  have hT2 := cT.le (C := C) hT0 (cle_nw C 20 40)
  refine cr_prF (r := (some C.1)) (C2 := (csr (cnw C 20 40) t 55 (some C.1))) dX10_init_337 rfl pw_10_136 rfl (Or.inr ⟨_, rfl⟩) hT2 rfl ?_
  exact h
set_option maxRecDepth 20000 in
set_option maxHeartbeats 4000000 in
theorem w_X10_init_340 {c : cX} {d : Nat} {C : cS} {K : Option Value → cS → Prop} (t : Nat) (hT0 : cT C t 10 59) (h : cG c eX10_init (d + 1) (cQ K) 347 [some (.ref t), none] [] (csr (cnw C 21 5) t 56 (some C.1))) : cG c eX10_init (d + 1) (cQ K) 340 [some (.ref t), none] [] C := by
  refine ag_aload_n dX10_init_340 rfl (Or.inr ⟨_, rfl⟩) ?_
  refine ag_iconst (v := 5) dX10_init_341 rfl ?_
  refine cr_newa (t := 21) (C2 := (cnw C 21 5)) dX10_init_342 rfl ac_long (by decide) (by decide) (by decide) (fun _ => rfl) rfl ?_
  have hT1 := cT_nw (C := C) (t := 21) (n := 5) hT0
  have hT2 := cT.le (C := C) hT0 (cle_nw C 21 5)
  refine cr_prF (r := (some C.1)) (C2 := (csr (cnw C 21 5) t 56 (some C.1))) dX10_init_344 rfl pw_10_139 rfl (Or.inr ⟨_, rfl⟩) hT2 rfl ?_
  exact h
set_option maxRecDepth 20000 in
set_option maxHeartbeats 4000000 in
theorem w_X10_init_347 {c : cX} {d : Nat} {C : cS} {K : Option Value → cS → Prop} (t : Nat) (hT0 : cT C t 10 59) (h : cG c eX10_init (d + 1) (cQ K) 354 [some (.ref t), none] [] (csr (cnw C 21 5) t 57 (some C.1))) : cG c eX10_init (d + 1) (cQ K) 347 [some (.ref t), none] [] C := by
  refine ag_aload_n dX10_init_347 rfl (Or.inr ⟨_, rfl⟩) ?_
  refine ag_iconst (v := 5) dX10_init_348 rfl ?_
  refine cr_newa (t := 21) (C2 := (cnw C 21 5)) dX10_init_349 rfl ac_long (by decide) (by decide) (by decide) (fun _ => rfl) rfl ?_
  have hT1 := cT_nw (C := C) (t := 21) (n := 5) hT0
  have hT2 := cT.le (C := C) hT0 (cle_nw C 21 5)
  refine cr_prF (r := (some C.1)) (C2 := (csr (cnw C 21 5) t 57 (some C.1))) dX10_init_351 rfl pw_10_142 rfl (Or.inr ⟨_, rfl⟩) hT2 rfl ?_
  exact h
set_option maxRecDepth 20000 in
set_option maxHeartbeats 4000000 in
theorem w_X10_init_354 {c : cX} {d : Nat} {C : cS} {K : Option Value → cS → Prop} (t : Nat) (hT0 : cT C t 10 59) (h : cG c eX10_init (d + 1) (cQ K) 361 [some (.ref t), none] [] (csr (cnw C 21 5) t 58 (some C.1))) : cG c eX10_init (d + 1) (cQ K) 354 [some (.ref t), none] [] C := by
  refine ag_aload_n dX10_init_354 rfl (Or.inr ⟨_, rfl⟩) ?_
  refine ag_iconst (v := 5) dX10_init_355 rfl ?_
  refine cr_newa (t := 21) (C2 := (cnw C 21 5)) dX10_init_356 rfl ac_long (by decide) (by decide) (by decide) (fun _ => rfl) rfl ?_
  have hT1 := cT_nw (C := C) (t := 21) (n := 5) hT0
  have hT2 := cT.le (C := C) hT0 (cle_nw C 21 5)
  refine cr_prF (r := (some C.1)) (C2 := (csr (cnw C 21 5) t 58 (some C.1))) dX10_init_358 rfl pw_10_145 rfl (Or.inr ⟨_, rfl⟩) hT2 rfl ?_
  exact h
set_option maxRecDepth 20000 in
set_option maxHeartbeats 4000000 in
theorem w_X10_init_361 {c : cX} {d : Nat} {C : cS} {K : Option Value → cS → Prop} (t : Nat) (hT0 : cT C t 10 59) (h : ∃ a1 : Nat, (cR C t 41) = some a1 ∧ (∃ n4 : Nat, cT C a1 20 n4 ∧ (∃ j5 : Nat, am_ix 0 j5 n4 ∧ (cG c eX10_init (d + 1) (cQ K) 368 [some (.ref t), none] [] (csi C a1 j5 2))))) : cG c eX10_init (d + 1) (cQ K) 361 [some (.ref t), none] [] C := by
  refine ag_aload_n dX10_init_361 rfl (Or.inr ⟨_, rfl⟩) ?_
  refine cr_get (v := va_rf (cR C t 41)) dX10_init_362 fw_10_106 hT0 rfl ?_
  refine ag_iconst (v := 0) dX10_init_365 rfl ?_
  refine ag_iconst (v := 2) dX10_init_366 rfl ?_
  obtain ⟨a1, hr2, h⟩ := h
  refine cr_stk (st' := [.int 2, .int 0, .ref a1]) (by rw [hr2]; rfl) ?_
  obtain ⟨n4, hT3, h⟩ := h
  obtain ⟨j5, hj6, h⟩ := h
  refine cr_is (C2 := (csi C a1 j5 2)) dX10_init_367 hT3 hj6 rfl ?_
  exact h
set_option maxRecDepth 20000 in
set_option maxHeartbeats 4000000 in
theorem w_X10_init_368 {c : cX} {d : Nat} {C : cS} {K : Option Value → cS → Prop} (t : Nat) (hT0 : cT C t 10 59) (h : ∃ a1 : Nat, (cR C t 41) = some a1 ∧ (∃ n4 : Nat, cT C a1 20 n4 ∧ (∃ j5 : Nat, am_ix 1 j5 n4 ∧ (cG c eX10_init (d + 1) (cQ K) 375 [some (.ref t), none] [] (csi C a1 j5 4))))) : cG c eX10_init (d + 1) (cQ K) 368 [some (.ref t), none] [] C := by
  refine ag_aload_n dX10_init_368 rfl (Or.inr ⟨_, rfl⟩) ?_
  refine cr_get (v := va_rf (cR C t 41)) dX10_init_369 fw_10_106 hT0 rfl ?_
  refine ag_iconst (v := 1) dX10_init_372 rfl ?_
  refine ag_iconst (v := 4) dX10_init_373 rfl ?_
  obtain ⟨a1, hr2, h⟩ := h
  refine cr_stk (st' := [.int 4, .int 1, .ref a1]) (by rw [hr2]; rfl) ?_
  obtain ⟨n4, hT3, h⟩ := h
  obtain ⟨j5, hj6, h⟩ := h
  refine cr_is (C2 := (csi C a1 j5 4)) dX10_init_374 hT3 hj6 rfl ?_
  exact h
set_option maxRecDepth 20000 in
set_option maxHeartbeats 4000000 in
theorem w_X10_init_375 {c : cX} {d : Nat} {C : cS} {K : Option Value → cS → Prop} (t : Nat) (hT0 : cT C t 10 59) (h : ∃ a1 : Nat, (cR C t 41) = some a1 ∧ (∃ n4 : Nat, cT C a1 20 n4 ∧ (∃ j5 : Nat, am_ix 2 j5 n4 ∧ (cG c eX10_init (d + 1) (cQ K) 385 [some (.ref t), some (.int 0)] [] (csi C a1 j5 8))))) : cG c eX10_init (d + 1) (cQ K) 375 [some (.ref t), none] [] C := by
  refine ag_aload_n dX10_init_375 rfl (Or.inr ⟨_, rfl⟩) ?_
  refine cr_get (v := va_rf (cR C t 41)) dX10_init_376 fw_10_106 hT0 rfl ?_
  refine ag_iconst (v := 2) dX10_init_379 rfl ?_
  refine ag_bipush (v := 8) dX10_init_380 (by decide) ?_
  obtain ⟨a1, hr2, h⟩ := h
  refine cr_stk (st' := [.int 8, .int 2, .ref a1]) (by rw [hr2]; rfl) ?_
  obtain ⟨n4, hT3, h⟩ := h
  obtain ⟨j5, hj6, h⟩ := h
  refine cr_is (C2 := (csi C a1 j5 8)) dX10_init_382 hT3 hj6 rfl ?_
  refine ag_iconst (v := 0) dX10_init_383 rfl ?_
  refine ag_istore_n (lv2 := [some (.ref t), some (.int 0)]) dX10_init_384 (Nat.le_of_ble_eq_true rfl) rfl ?_
  exact h
set_option maxRecDepth 20000 in
set_option maxHeartbeats 4000000 in
theorem w_X10_init_385 {c : cX} {d : Nat} {C : cS} {K : Option Value → cS → Prop} (t : Nat) (v1 : Int32) (hT0 : cT C t 10 59) (h : (10 ≤ v1 → (cG c eX10_init (d + 1) (cQ K) 417 [some (.ref t), some (.int 0)] [] C)) ∧ (¬ 10 ≤ v1 → (∃ a2 : Nat, (cR C t 41) = some a2 ∧ (∃ n5 : Nat, cT C a2 20 n5 ∧ (∃ j6 : Nat, am_ix (3 + v1) j6 n5 ∧ (cG c eX10_init (d + 1) (cQ K) 400 [some (.ref t), some (.int v1)] [] (csi C a2 j6 1))))))) : cG c eX10_init (d + 1) (cQ K) 385 [some (.ref t), some (.int v1)] [] C := by
  refine ag_iload_n dX10_init_385 rfl ?_
  refine ag_bipush (v := 10) dX10_init_386 (by decide) ?_
  refine ag_icmp_ge (tgt := 415) dX10_init_388 rfl (fun hc1 => ?_) (fun hc1 => ?_)
  · have h := h.1 hc1
    refine ag_iconst (v := 0) dX10_init_415 rfl ?_
    refine ag_istore_n (lv2 := [some (.ref t), some (.int 0)]) dX10_init_416 (Nat.le_of_ble_eq_true rfl) rfl ?_
    exact h
  · have h := h.2 hc1
    refine ag_aload_n dX10_init_391 rfl (Or.inr ⟨_, rfl⟩) ?_
    refine cr_get (v := va_rf (cR C t 41)) dX10_init_392 fw_10_106 hT0 rfl ?_
    refine ag_iconst (v := 3) dX10_init_395 rfl ?_
    refine ag_iload_n dX10_init_396 rfl ?_
    refine ag_iadd dX10_init_397 rfl ?_
    refine ag_iconst (v := 1) dX10_init_398 rfl ?_
    obtain ⟨a2, hr3, h⟩ := h
    refine cr_stk (st' := [.int 1, .int (3 + v1), .ref a2]) (by rw [hr3]; rfl) ?_
    obtain ⟨n5, hT4, h⟩ := h
    obtain ⟨j6, hj7, h⟩ := h
    refine cr_is (C2 := (csi C a2 j6 1)) dX10_init_399 hT4 hj7 rfl ?_
    exact h
set_option maxRecDepth 20000 in
set_option maxHeartbeats 4000000 in
theorem w_X10_init_400 {c : cX} {d : Nat} {C : cS} {K : Option Value → cS → Prop} (t : Nat) (v1 : Int32) (hT0 : cT C t 10 59) (h : ∃ a1 : Nat, (cR C t 42) = some a1 ∧ (∃ n4 : Nat, cT C a1 20 n4 ∧ (∃ j5 : Nat, am_ix (3 + v1) j5 n4 ∧ (cG c eX10_init (d + 1) (cQ K) 385 [some (.ref t), some (.int (v1 + 1))] [] (csi C a1 j5 v1))))) : cG c eX10_init (d + 1) (cQ K) 400 [some (.ref t), some (.int v1)] [] C := by
  refine ag_aload_n dX10_init_400 rfl (Or.inr ⟨_, rfl⟩) ?_
  refine cr_get (v := va_rf (cR C t 42)) dX10_init_401 fw_10_109 hT0 rfl ?_
  refine ag_iconst (v := 3) dX10_init_404 rfl ?_
  refine ag_iload_n dX10_init_405 rfl ?_
  refine ag_iadd dX10_init_406 rfl ?_
  refine ag_iload_n dX10_init_407 rfl ?_
  obtain ⟨a1, hr2, h⟩ := h
  refine cr_stk (st' := [.int v1, .int (3 + v1), .ref a1]) (by rw [hr2]; rfl) ?_
  obtain ⟨n4, hT3, h⟩ := h
  obtain ⟨j5, hj6, h⟩ := h
  refine cr_is (C2 := (csi C a1 j5 v1)) dX10_init_408 hT3 hj6 rfl ?_
  refine ag_iinc (v2 := (v1 + 1)) (lv2 := [some (.ref t), some (.int (v1 + 1))]) dX10_init_409 rfl rfl rfl ?_
  refine ag_goto (tgt := 385) dX10_init_412 rfl ?_
  exact h
set_option maxRecDepth 20000 in
set_option maxHeartbeats 4000000 in
theorem w_X10_init_417 {c : cX} {d : Nat} {C : cS} {K : Option Value → cS → Prop} (t : Nat) (v1 : Int32) (hT0 : cT C t 10 59) (h : (64 ≤ v1 → (K none C)) ∧ (¬ 64 ≤ v1 → (∃ a2 : Nat, (cR C t 43) = some a2 ∧ (∃ n5 : Nat, cT C a2 20 n5 ∧ (∃ j6 : Nat, am_ix v1 j6 n5 ∧ (cG c eX10_init (d + 1) (cQ K) 430 [some (.ref t), some (.int v1)] [] (csi C a2 j6 (-1)))))))) : cG c eX10_init (d + 1) (cQ K) 417 [some (.ref t), some (.int v1)] [] C := by
  refine ag_iload_n dX10_init_417 rfl ?_
  refine ag_bipush (v := 64) dX10_init_418 (by decide) ?_
  refine ag_icmp_ge (tgt := 443) dX10_init_420 rfl (fun hc1 => ?_) (fun hc1 => ?_)
  · have h := h.1 hc1
    exact ag_ret (v := none) dX10_init_443 rfl ⟨_, rfl, _, rfl, h⟩ rfl
  · have h := h.2 hc1
    refine ag_aload_n dX10_init_423 rfl (Or.inr ⟨_, rfl⟩) ?_
    refine cr_get (v := va_rf (cR C t 43)) dX10_init_424 fw_10_112 hT0 rfl ?_
    refine ag_iload_n dX10_init_427 rfl ?_
    refine ag_iconst (v := (-1)) dX10_init_428 rfl ?_
    obtain ⟨a2, hr3, h⟩ := h
    refine cr_stk (st' := [.int (-1), .int v1, .ref a2]) (by rw [hr3]; rfl) ?_
    obtain ⟨n5, hT4, h⟩ := h
    obtain ⟨j6, hj7, h⟩ := h
    refine cr_is (C2 := (csi C a2 j6 (-1))) dX10_init_429 hT4 hj7 rfl ?_
    exact h
set_option maxRecDepth 20000 in
set_option maxHeartbeats 4000000 in
theorem w_X10_init_430 {c : cX} {d : Nat} {C : cS} {K : Option Value → cS → Prop} (t : Nat) (v1 : Int32) (hT0 : cT C t 10 59) (h : ∃ a1 : Nat, (cR C t 44) = some a1 ∧ (∃ n4 : Nat, cT C a1 20 n4 ∧ (∃ j5 : Nat, am_ix v1 j5 n4 ∧ (cG c eX10_init (d + 1) (cQ K) 417 [some (.ref t), some (.int (v1 + 1))] [] (csi C a1 j5 (-1)))))) : cG c eX10_init (d + 1) (cQ K) 430 [some (.ref t), some (.int v1)] [] C := by
  refine ag_aload_n dX10_init_430 rfl (Or.inr ⟨_, rfl⟩) ?_
  refine cr_get (v := va_rf (cR C t 44)) dX10_init_431 fw_10_115 hT0 rfl ?_
  refine ag_iload_n dX10_init_434 rfl ?_
  refine ag_iconst (v := (-1)) dX10_init_435 rfl ?_
  obtain ⟨a1, hr2, h⟩ := h
  refine cr_stk (st' := [.int (-1), .int v1, .ref a1]) (by rw [hr2]; rfl) ?_
  obtain ⟨n4, hT3, h⟩ := h
  obtain ⟨j5, hj6, h⟩ := h
  refine cr_is (C2 := (csi C a1 j5 (-1))) dX10_init_436 hT3 hj6 rfl ?_
  refine ag_iinc (v2 := (v1 + 1)) (lv2 := [some (.ref t), some (.int (v1 + 1))]) dX10_init_437 rfl rfl rfl ?_
  refine ag_goto (tgt := 417) dX10_init_440 rfl ?_
  exact h
