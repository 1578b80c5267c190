/-! decode rows and block rows, by a program -/
-- ReelOfBoxesLaw.law([I)Z : method L
theorem d_L_0 : decode code 0 = .ok (.new 7, 3) := by decide +kernel
theorem d_L_3 : decode code 3 = .ok (.dup, 1) := by decide +kernel
theorem d_L_4 : decode code 4 = .ok (.invokespecial 9, 3) := by decide +kernel
theorem d_L_7 : decode code 7 = .ok (.astore_n 1, 1) := by decide +kernel
theorem d_L_8 : decode code 8 = .ok (.new 10, 3) := by decide +kernel
theorem d_L_11 : decode code 11 = .ok (.dup, 1) := by decide +kernel
theorem d_L_12 : decode code 12 = .ok (.invokespecial 12, 3) := by decide +kernel
theorem d_L_15 : decode code 15 = .ok (.astore_n 2, 1) := by decide +kernel
theorem d_L_16 : decode code 16 = .ok (.iconst (0), 1) := by decide +kernel
theorem d_L_17 : decode code 17 = .ok (.istore_n 3, 1) := by decide +kernel
theorem d_L_18 : decode code 18 = .ok (.iload_n 3, 1) := by decide +kernel
theorem d_L_19 : decode code 19 = .ok (.aload_n 0, 1) := by decide +kernel
theorem d_L_20 : decode code 20 = .ok (.arraylength, 1) := by decide +kernel
theorem d_L_21 : decode code 21 = .ok (.bipush (6), 2) := by decide +kernel
theorem d_L_23 : decode code 23 = .ok (.isub, 1) := by decide +kernel
theorem d_L_24 : decode code 24 = .ok (.if_icmp .gt (554), 3) := by decide +kernel
theorem d_L_27 : decode code 27 = .ok (.aload_n 0, 1) := by decide +kernel
theorem d_L_28 : decode code 28 = .ok (.iload_n 3, 1) := by decide +kernel
theorem d_L_29 : decode code 29 = .ok (.iaload, 1) := by decide +kernel
theorem d_L_30 : decode code 30 = .ok (.bipush (15), 2) := by decide +kernel
theorem d_L_32 : decode code 32 = .ok (.iand, 1) := by decide +kernel
theorem d_L_33 : decode code 33 = .ok (.tableswitch (539) (0) (15) #[(79), (92), (175), (188), (221), (234), (247), (260), (283), (316), (350), (384), (397), (420), (453), (516)], 79) := by decide +kernel
theorem d_L_112 : decode code 112 = .ok (.aload_n 1, 1) := by decide +kernel
theorem d_L_113 : decode code 113 = .ok (.invokevirtual 13, 3) := by decide +kernel
theorem d_L_116 : decode code 116 = .ok (.aload_n 2, 1) := by decide +kernel
theorem d_L_117 : decode code 117 = .ok (.invokevirtual 17, 3) := by decide +kernel
theorem d_L_120 : decode code 120 = .ok (.if_icmp .eq (452), 3) := by decide +kernel
theorem d_L_123 : decode code 123 = .ok (.iconst (0), 1) := by decide +kernel
theorem d_L_124 : decode code 124 = .ok (.ireturn, 1) := by decide +kernel
theorem d_L_125 : decode code 125 = .ok (.aload_n 1, 1) := by decide +kernel
theorem d_L_126 : decode code 126 = .ok (.aload_n 0, 1) := by decide +kernel
theorem d_L_127 : decode code 127 = .ok (.iload_n 3, 1) := by decide +kernel
theorem d_L_128 : decode code 128 = .ok (.iconst (1), 1) := by decide +kernel
theorem d_L_129 : decode code 129 = .ok (.iadd, 1) := by decide +kernel
theorem d_L_130 : decode code 130 = .ok (.iaload, 1) := by decide +kernel
theorem d_L_131 : decode code 131 = .ok (.aload_n 0, 1) := by decide +kernel
theorem d_L_132 : decode code 132 = .ok (.iload_n 3, 1) := by decide +kernel
theorem d_L_133 : decode code 133 = .ok (.iconst (2), 1) := by decide +kernel
theorem d_L_134 : decode code 134 = .ok (.iadd, 1) := by decide +kernel
theorem d_L_135 : decode code 135 = .ok (.iaload, 1) := by decide +kernel
theorem d_L_136 : decode code 136 = .ok (.aload_n 0, 1) := by decide +kernel
theorem d_L_137 : decode code 137 = .ok (.iload_n 3, 1) := by decide +kernel
theorem d_L_138 : decode code 138 = .ok (.iconst (3), 1) := by decide +kernel
theorem d_L_139 : decode code 139 = .ok (.iadd, 1) := by decide +kernel
theorem d_L_140 : decode code 140 = .ok (.iaload, 1) := by decide +kernel
theorem d_L_141 : decode code 141 = .ok (.i2l, 1) := by decide +kernel
theorem d_L_142 : decode code 142 = .ok (.bipush (32), 2) := by decide +kernel
theorem d_L_144 : decode code 144 = .ok (.lshl, 1) := by decide +kernel
theorem d_L_145 : decode code 145 = .ok (.aload_n 0, 1) := by decide +kernel
theorem d_L_146 : decode code 146 = .ok (.iload_n 3, 1) := by decide +kernel
theorem d_L_147 : decode code 147 = .ok (.iconst (4), 1) := by decide +kernel
theorem d_L_148 : decode code 148 = .ok (.iadd, 1) := by decide +kernel
theorem d_L_149 : decode code 149 = .ok (.iaload, 1) := by decide +kernel
theorem d_L_150 : decode code 150 = .ok (.i2l, 1) := by decide +kernel
theorem d_L_151 : decode code 151 = .ok (.ldc2_w 18, 3) := by decide +kernel
theorem d_L_154 : decode code 154 = .ok (.land, 1) := by decide +kernel
theorem d_L_155 : decode code 155 = .ok (.lor, 1) := by decide +kernel
theorem d_L_156 : decode code 156 = .ok (.aload_n 0, 1) := by decide +kernel
theorem d_L_157 : decode code 157 = .ok (.iload_n 3, 1) := by decide +kernel
theorem d_L_158 : decode code 158 = .ok (.iconst (5), 1) := by decide +kernel
theorem d_L_159 : decode code 159 = .ok (.iadd, 1) := by decide +kernel
theorem d_L_160 : decode code 160 = .ok (.iaload, 1) := by decide +kernel
theorem d_L_161 : decode code 161 = .ok (.invokevirtual 20, 3) := by decide +kernel
theorem d_L_164 : decode code 164 = .ok (.aload_n 2, 1) := by decide +kernel
theorem d_L_165 : decode code 165 = .ok (.aload_n 0, 1) := by decide +kernel
theorem d_L_166 : decode code 166 = .ok (.iload_n 3, 1) := by decide +kernel
theorem d_L_167 : decode code 167 = .ok (.iconst (1), 1) := by decide +kernel
theorem d_L_168 : decode code 168 = .ok (.iadd, 1) := by decide +kernel
theorem d_L_169 : decode code 169 = .ok (.iaload, 1) := by decide +kernel
theorem d_L_170 : decode code 170 = .ok (.aload_n 0, 1) := by decide +kernel
theorem d_L_171 : decode code 171 = .ok (.iload_n 3, 1) := by decide +kernel
theorem d_L_172 : decode code 172 = .ok (.iconst (2), 1) := by decide +kernel
theorem d_L_173 : decode code 173 = .ok (.iadd, 1) := by decide +kernel
theorem d_L_174 : decode code 174 = .ok (.iaload, 1) := by decide +kernel
theorem d_L_175 : decode code 175 = .ok (.aload_n 0, 1) := by decide +kernel
theorem d_L_176 : decode code 176 = .ok (.iload_n 3, 1) := by decide +kernel
theorem d_L_177 : decode code 177 = .ok (.iconst (3), 1) := by decide +kernel
theorem d_L_178 : decode code 178 = .ok (.iadd, 1) := by decide +kernel
theorem d_L_179 : decode code 179 = .ok (.iaload, 1) := by decide +kernel
theorem d_L_180 : decode code 180 = .ok (.i2l, 1) := by decide +kernel
theorem d_L_181 : decode code 181 = .ok (.bipush (32), 2) := by decide +kernel
theorem d_L_183 : decode code 183 = .ok (.lshl, 1) := by decide +kernel
theorem d_L_184 : decode code 184 = .ok (.aload_n 0, 1) := by decide +kernel
theorem d_L_185 : decode code 185 = .ok (.iload_n 3, 1) := by decide +kernel
theorem d_L_186 : decode code 186 = .ok (.iconst (4), 1) := by decide +kernel
theorem d_L_187 : decode code 187 = .ok (.iadd, 1) := by decide +kernel
theorem d_L_188 : decode code 188 = .ok (.iaload, 1) := by decide +kernel
theorem d_L_189 : decode code 189 = .ok (.i2l, 1) := by decide +kernel
theorem d_L_190 : decode code 190 = .ok (.ldc2_w 18, 3) := by decide +kernel
theorem d_L_193 : decode code 193 = .ok (.land, 1) := by decide +kernel
theorem d_L_194 : decode code 194 = .ok (.lor, 1) := by decide +kernel
theorem d_L_195 : decode code 195 = .ok (.aload_n 0, 1) := by decide +kernel
theorem d_L_196 : decode code 196 = .ok (.iload_n 3, 1) := by decide +kernel
theorem d_L_197 : decode code 197 = .ok (.iconst (5), 1) := by decide +kernel
theorem d_L_198 : decode code 198 = .ok (.iadd, 1) := by decide +kernel
theorem d_L_199 : decode code 199 = .ok (.iaload, 1) := by decide +kernel
theorem d_L_200 : decode code 200 = .ok (.invokevirtual 24, 3) := by decide +kernel
theorem d_L_203 : decode code 203 = .ok (.if_icmp .eq (369), 3) := by decide +kernel
theorem d_L_206 : decode code 206 = .ok (.iconst (0), 1) := by decide +kernel
theorem d_L_207 : decode code 207 = .ok (.ireturn, 1) := by decide +kernel
theorem d_L_208 : decode code 208 = .ok (.aload_n 1, 1) := by decide +kernel
theorem d_L_209 : decode code 209 = .ok (.invokevirtual 25, 3) := by decide +kernel
theorem d_L_212 : decode code 212 = .ok (.aload_n 2, 1) := by decide +kernel
theorem d_L_213 : decode code 213 = .ok (.invokevirtual 28, 3) := by decide +kernel
theorem d_L_216 : decode code 216 = .ok (.if_icmp .eq (356), 3) := by decide +kernel
theorem d_L_219 : decode code 219 = .ok (.iconst (0), 1) := by decide +kernel
theorem d_L_220 : decode code 220 = .ok (.ireturn, 1) := by decide +kernel
theorem d_L_221 : decode code 221 = .ok (.aload_n 1, 1) := by decide +kernel
theorem d_L_222 : decode code 222 = .ok (.aload_n 0, 1) := by decide +kernel
theorem d_L_223 : decode code 223 = .ok (.iload_n 3, 1) := by decide +kernel
theorem d_L_224 : decode code 224 = .ok (.iconst (1), 1) := by decide +kernel
theorem d_L_225 : decode code 225 = .ok (.iadd, 1) := by decide +kernel
theorem d_L_226 : decode code 226 = .ok (.iaload, 1) := by decide +kernel
theorem d_L_227 : decode code 227 = .ok (.aload_n 0, 1) := by decide +kernel
theorem d_L_228 : decode code 228 = .ok (.iload_n 3, 1) := by decide +kernel
theorem d_L_229 : decode code 229 = .ok (.iconst (2), 1) := by decide +kernel
theorem d_L_230 : decode code 230 = .ok (.iadd, 1) := by decide +kernel
theorem d_L_231 : decode code 231 = .ok (.iaload, 1) := by decide +kernel
theorem d_L_232 : decode code 232 = .ok (.invokevirtual 29, 3) := by decide +kernel
theorem d_L_235 : decode code 235 = .ok (.aload_n 2, 1) := by decide +kernel
theorem d_L_236 : decode code 236 = .ok (.aload_n 0, 1) := by decide +kernel
theorem d_L_237 : decode code 237 = .ok (.iload_n 3, 1) := by decide +kernel
theorem d_L_238 : decode code 238 = .ok (.iconst (1), 1) := by decide +kernel
theorem d_L_239 : decode code 239 = .ok (.iadd, 1) := by decide +kernel
theorem d_L_240 : decode code 240 = .ok (.iaload, 1) := by decide +kernel
theorem d_L_241 : decode code 241 = .ok (.aload_n 0, 1) := by decide +kernel
theorem d_L_242 : decode code 242 = .ok (.iload_n 3, 1) := by decide +kernel
theorem d_L_243 : decode code 243 = .ok (.iconst (2), 1) := by decide +kernel
theorem d_L_244 : decode code 244 = .ok (.iadd, 1) := by decide +kernel
theorem d_L_245 : decode code 245 = .ok (.iaload, 1) := by decide +kernel
theorem d_L_246 : decode code 246 = .ok (.invokevirtual 33, 3) := by decide +kernel
theorem d_L_249 : decode code 249 = .ok (.if_icmp .eq (323), 3) := by decide +kernel
theorem d_L_252 : decode code 252 = .ok (.iconst (0), 1) := by decide +kernel
theorem d_L_253 : decode code 253 = .ok (.ireturn, 1) := by decide +kernel
theorem d_L_254 : decode code 254 = .ok (.aload_n 1, 1) := by decide +kernel
theorem d_L_255 : decode code 255 = .ok (.invokevirtual 34, 3) := by decide +kernel
theorem d_L_258 : decode code 258 = .ok (.aload_n 2, 1) := by decide +kernel
theorem d_L_259 : decode code 259 = .ok (.invokevirtual 37, 3) := by decide +kernel
theorem d_L_262 : decode code 262 = .ok (.if_icmp .eq (310), 3) := by decide +kernel
theorem d_L_265 : decode code 265 = .ok (.iconst (0), 1) := by decide +kernel
theorem d_L_266 : decode code 266 = .ok (.ireturn, 1) := by decide +kernel
theorem d_L_267 : decode code 267 = .ok (.aload_n 1, 1) := by decide +kernel
theorem d_L_268 : decode code 268 = .ok (.invokevirtual 38, 3) := by decide +kernel
theorem d_L_271 : decode code 271 = .ok (.aload_n 2, 1) := by decide +kernel
theorem d_L_272 : decode code 272 = .ok (.invokevirtual 41, 3) := by decide +kernel
theorem d_L_275 : decode code 275 = .ok (.if_icmp .eq (297), 3) := by decide +kernel
theorem d_L_278 : decode code 278 = .ok (.iconst (0), 1) := by decide +kernel
theorem d_L_279 : decode code 279 = .ok (.ireturn, 1) := by decide +kernel
theorem d_L_280 : decode code 280 = .ok (.aload_n 1, 1) := by decide +kernel
theorem d_L_281 : decode code 281 = .ok (.invokevirtual 42, 3) := by decide +kernel
theorem d_L_284 : decode code 284 = .ok (.aload_n 2, 1) := by decide +kernel
theorem d_L_285 : decode code 285 = .ok (.invokevirtual 45, 3) := by decide +kernel
theorem d_L_288 : decode code 288 = .ok (.if_icmp .eq (284), 3) := by decide +kernel
theorem d_L_291 : decode code 291 = .ok (.iconst (0), 1) := by decide +kernel
theorem d_L_292 : decode code 292 = .ok (.ireturn, 1) := by decide +kernel
theorem d_L_293 : decode code 293 = .ok (.aload_n 1, 1) := by decide +kernel
theorem d_L_294 : decode code 294 = .ok (.aload_n 0, 1) := by decide +kernel
theorem d_L_295 : decode code 295 = .ok (.iload_n 3, 1) := by decide +kernel
theorem d_L_296 : decode code 296 = .ok (.iconst (1), 1) := by decide +kernel
theorem d_L_297 : decode code 297 = .ok (.iadd, 1) := by decide +kernel
theorem d_L_298 : decode code 298 = .ok (.iaload, 1) := by decide +kernel
theorem d_L_299 : decode code 299 = .ok (.invokevirtual 46, 3) := by decide +kernel
theorem d_L_302 : decode code 302 = .ok (.aload_n 2, 1) := by decide +kernel
theorem d_L_303 : decode code 303 = .ok (.aload_n 0, 1) := by decide +kernel
theorem d_L_304 : decode code 304 = .ok (.iload_n 3, 1) := by decide +kernel
theorem d_L_305 : decode code 305 = .ok (.iconst (1), 1) := by decide +kernel
theorem d_L_306 : decode code 306 = .ok (.iadd, 1) := by decide +kernel
theorem d_L_307 : decode code 307 = .ok (.iaload, 1) := by decide +kernel
theorem d_L_308 : decode code 308 = .ok (.invokevirtual 50, 3) := by decide +kernel
theorem d_L_311 : decode code 311 = .ok (.if_icmp .eq (261), 3) := by decide +kernel
theorem d_L_314 : decode code 314 = .ok (.iconst (0), 1) := by decide +kernel
theorem d_L_315 : decode code 315 = .ok (.ireturn, 1) := by decide +kernel
theorem d_L_316 : decode code 316 = .ok (.aload_n 1, 1) := by decide +kernel
theorem d_L_317 : decode code 317 = .ok (.aload_n 0, 1) := by decide +kernel
theorem d_L_318 : decode code 318 = .ok (.iload_n 3, 1) := by decide +kernel
theorem d_L_319 : decode code 319 = .ok (.iconst (1), 1) := by decide +kernel
theorem d_L_320 : decode code 320 = .ok (.iadd, 1) := by decide +kernel
theorem d_L_321 : decode code 321 = .ok (.iaload, 1) := by decide +kernel
theorem d_L_322 : decode code 322 = .ok (.aload_n 0, 1) := by decide +kernel
theorem d_L_323 : decode code 323 = .ok (.iload_n 3, 1) := by decide +kernel
theorem d_L_324 : decode code 324 = .ok (.iconst (2), 1) := by decide +kernel
theorem d_L_325 : decode code 325 = .ok (.iadd, 1) := by decide +kernel
theorem d_L_326 : decode code 326 = .ok (.iaload, 1) := by decide +kernel
theorem d_L_327 : decode code 327 = .ok (.invokevirtual 51, 3) := by decide +kernel
theorem d_L_330 : decode code 330 = .ok (.aload_n 2, 1) := by decide +kernel
theorem d_L_331 : decode code 331 = .ok (.aload_n 0, 1) := by decide +kernel
theorem d_L_332 : decode code 332 = .ok (.iload_n 3, 1) := by decide +kernel
theorem d_L_333 : decode code 333 = .ok (.iconst (1), 1) := by decide +kernel
theorem d_L_334 : decode code 334 = .ok (.iadd, 1) := by decide +kernel
theorem d_L_335 : decode code 335 = .ok (.iaload, 1) := by decide +kernel
theorem d_L_336 : decode code 336 = .ok (.aload_n 0, 1) := by decide +kernel
theorem d_L_337 : decode code 337 = .ok (.iload_n 3, 1) := by decide +kernel
theorem d_L_338 : decode code 338 = .ok (.iconst (2), 1) := by decide +kernel
theorem d_L_339 : decode code 339 = .ok (.iadd, 1) := by decide +kernel
theorem d_L_340 : decode code 340 = .ok (.iaload, 1) := by decide +kernel
theorem d_L_341 : decode code 341 = .ok (.invokevirtual 54, 3) := by decide +kernel
theorem d_L_344 : decode code 344 = .ok (.if_icmp .eq (228), 3) := by decide +kernel
theorem d_L_347 : decode code 347 = .ok (.iconst (0), 1) := by decide +kernel
theorem d_L_348 : decode code 348 = .ok (.ireturn, 1) := by decide +kernel
theorem d_L_349 : decode code 349 = .ok (.aload_n 1, 1) := by decide +kernel
theorem d_L_350 : decode code 350 = .ok (.aload_n 0, 1) := by decide +kernel
theorem d_L_351 : decode code 351 = .ok (.iload_n 3, 1) := by decide +kernel
theorem d_L_352 : decode code 352 = .ok (.iconst (1), 1) := by decide +kernel
theorem d_L_353 : decode code 353 = .ok (.iadd, 1) := by decide +kernel
theorem d_L_354 : decode code 354 = .ok (.iaload, 1) := by decide +kernel
theorem d_L_355 : decode code 355 = .ok (.aload_n 0, 1) := by decide +kernel
theorem d_L_356 : decode code 356 = .ok (.iload_n 3, 1) := by decide +kernel
theorem d_L_357 : decode code 357 = .ok (.iconst (2), 1) := by decide +kernel
theorem d_L_358 : decode code 358 = .ok (.iadd, 1) := by decide +kernel
theorem d_L_359 : decode code 359 = .ok (.iaload, 1) := by decide +kernel
theorem d_L_360 : decode code 360 = .ok (.invokevirtual 55, 3) := by decide +kernel
theorem d_L_363 : decode code 363 = .ok (.aload_n 2, 1) := by decide +kernel
theorem d_L_364 : decode code 364 = .ok (.aload_n 0, 1) := by decide +kernel
theorem d_L_365 : decode code 365 = .ok (.iload_n 3, 1) := by decide +kernel
theorem d_L_366 : decode code 366 = .ok (.iconst (1), 1) := by decide +kernel
theorem d_L_367 : decode code 367 = .ok (.iadd, 1) := by decide +kernel
theorem d_L_368 : decode code 368 = .ok (.iaload, 1) := by decide +kernel
theorem d_L_369 : decode code 369 = .ok (.aload_n 0, 1) := by decide +kernel
theorem d_L_370 : decode code 370 = .ok (.iload_n 3, 1) := by decide +kernel
theorem d_L_371 : decode code 371 = .ok (.iconst (2), 1) := by decide +kernel
theorem d_L_372 : decode code 372 = .ok (.iadd, 1) := by decide +kernel
theorem d_L_373 : decode code 373 = .ok (.iaload, 1) := by decide +kernel
theorem d_L_374 : decode code 374 = .ok (.invokevirtual 59, 3) := by decide +kernel
theorem d_L_377 : decode code 377 = .ok (.lcmp, 1) := by decide +kernel
theorem d_L_378 : decode code 378 = .ok (.ifCond .eq (194), 3) := by decide +kernel
theorem d_L_381 : decode code 381 = .ok (.iconst (0), 1) := by decide +kernel
theorem d_L_382 : decode code 382 = .ok (.ireturn, 1) := by decide +kernel
theorem d_L_383 : decode code 383 = .ok (.aload_n 1, 1) := by decide +kernel
theorem d_L_384 : decode code 384 = .ok (.aload_n 0, 1) := by decide +kernel
theorem d_L_385 : decode code 385 = .ok (.iload_n 3, 1) := by decide +kernel
theorem d_L_386 : decode code 386 = .ok (.iconst (1), 1) := by decide +kernel
theorem d_L_387 : decode code 387 = .ok (.iadd, 1) := by decide +kernel
theorem d_L_388 : decode code 388 = .ok (.iaload, 1) := by decide +kernel
theorem d_L_389 : decode code 389 = .ok (.aload_n 0, 1) := by decide +kernel
theorem d_L_390 : decode code 390 = .ok (.iload_n 3, 1) := by decide +kernel
theorem d_L_391 : decode code 391 = .ok (.iconst (2), 1) := by decide +kernel
theorem d_L_392 : decode code 392 = .ok (.iadd, 1) := by decide +kernel
theorem d_L_393 : decode code 393 = .ok (.iaload, 1) := by decide +kernel
theorem d_L_394 : decode code 394 = .ok (.invokevirtual 60, 3) := by decide +kernel
theorem d_L_397 : decode code 397 = .ok (.aload_n 2, 1) := by decide +kernel
theorem d_L_398 : decode code 398 = .ok (.aload_n 0, 1) := by decide +kernel
theorem d_L_399 : decode code 399 = .ok (.iload_n 3, 1) := by decide +kernel
theorem d_L_400 : decode code 400 = .ok (.iconst (1), 1) := by decide +kernel
theorem d_L_401 : decode code 401 = .ok (.iadd, 1) := by decide +kernel
theorem d_L_402 : decode code 402 = .ok (.iaload, 1) := by decide +kernel
theorem d_L_403 : decode code 403 = .ok (.aload_n 0, 1) := by decide +kernel
theorem d_L_404 : decode code 404 = .ok (.iload_n 3, 1) := by decide +kernel
theorem d_L_405 : decode code 405 = .ok (.iconst (2), 1) := by decide +kernel
theorem d_L_406 : decode code 406 = .ok (.iadd, 1) := by decide +kernel
theorem d_L_407 : decode code 407 = .ok (.iaload, 1) := by decide +kernel
theorem d_L_408 : decode code 408 = .ok (.invokevirtual 63, 3) := by decide +kernel
theorem d_L_411 : decode code 411 = .ok (.lcmp, 1) := by decide +kernel
theorem d_L_412 : decode code 412 = .ok (.ifCond .eq (160), 3) := by decide +kernel
theorem d_L_415 : decode code 415 = .ok (.iconst (0), 1) := by decide +kernel
theorem d_L_416 : decode code 416 = .ok (.ireturn, 1) := by decide +kernel
theorem d_L_417 : decode code 417 = .ok (.aload_n 1, 1) := by decide +kernel
theorem d_L_418 : decode code 418 = .ok (.invokevirtual 64, 3) := by decide +kernel
theorem d_L_421 : decode code 421 = .ok (.aload_n 2, 1) := by decide +kernel
theorem d_L_422 : decode code 422 = .ok (.invokevirtual 67, 3) := by decide +kernel
theorem d_L_425 : decode code 425 = .ok (.if_icmp .eq (147), 3) := by decide +kernel
theorem d_L_428 : decode code 428 = .ok (.iconst (0), 1) := by decide +kernel
theorem d_L_429 : decode code 429 = .ok (.ireturn, 1) := by decide +kernel
theorem d_L_430 : decode code 430 = .ok (.aload_n 1, 1) := by decide +kernel
theorem d_L_431 : decode code 431 = .ok (.aload_n 0, 1) := by decide +kernel
theorem d_L_432 : decode code 432 = .ok (.iload_n 3, 1) := by decide +kernel
theorem d_L_433 : decode code 433 = .ok (.iconst (1), 1) := by decide +kernel
theorem d_L_434 : decode code 434 = .ok (.iadd, 1) := by decide +kernel
theorem d_L_435 : decode code 435 = .ok (.iaload, 1) := by decide +kernel
theorem d_L_436 : decode code 436 = .ok (.invokevirtual 68, 3) := by decide +kernel
theorem d_L_439 : decode code 439 = .ok (.aload_n 2, 1) := by decide +kernel
theorem d_L_440 : decode code 440 = .ok (.aload_n 0, 1) := by decide +kernel
theorem d_L_441 : decode code 441 = .ok (.iload_n 3, 1) := by decide +kernel
theorem d_L_442 : decode code 442 = .ok (.iconst (1), 1) := by decide +kernel
theorem d_L_443 : decode code 443 = .ok (.iadd, 1) := by decide +kernel
theorem d_L_444 : decode code 444 = .ok (.iaload, 1) := by decide +kernel
theorem d_L_445 : decode code 445 = .ok (.invokevirtual 71, 3) := by decide +kernel
theorem d_L_448 : decode code 448 = .ok (.if_icmp .eq (124), 3) := by decide +kernel
theorem d_L_451 : decode code 451 = .ok (.iconst (0), 1) := by decide +kernel
theorem d_L_452 : decode code 452 = .ok (.ireturn, 1) := by decide +kernel
theorem d_L_453 : decode code 453 = .ok (.aload_n 1, 1) := by decide +kernel
theorem d_L_454 : decode code 454 = .ok (.aload_n 0, 1) := by decide +kernel
theorem d_L_455 : decode code 455 = .ok (.iload_n 3, 1) := by decide +kernel
theorem d_L_456 : decode code 456 = .ok (.iconst (1), 1) := by decide +kernel
theorem d_L_457 : decode code 457 = .ok (.iadd, 1) := by decide +kernel
theorem d_L_458 : decode code 458 = .ok (.iaload, 1) := by decide +kernel
theorem d_L_459 : decode code 459 = .ok (.aload_n 0, 1) := by decide +kernel
theorem d_L_460 : decode code 460 = .ok (.iload_n 3, 1) := by decide +kernel
theorem d_L_461 : decode code 461 = .ok (.iconst (2), 1) := by decide +kernel
theorem d_L_462 : decode code 462 = .ok (.iadd, 1) := by decide +kernel
theorem d_L_463 : decode code 463 = .ok (.iaload, 1) := by decide +kernel
theorem d_L_464 : decode code 464 = .ok (.invokevirtual 72, 3) := by decide +kernel
theorem d_L_467 : decode code 467 = .ok (.aload_n 2, 1) := by decide +kernel
theorem d_L_468 : decode code 468 = .ok (.aload_n 0, 1) := by decide +kernel
theorem d_L_469 : decode code 469 = .ok (.iload_n 3, 1) := by decide +kernel
theorem d_L_470 : decode code 470 = .ok (.iconst (1), 1) := by decide +kernel
theorem d_L_471 : decode code 471 = .ok (.iadd, 1) := by decide +kernel
theorem d_L_472 : decode code 472 = .ok (.iaload, 1) := by decide +kernel
theorem d_L_473 : decode code 473 = .ok (.aload_n 0, 1) := by decide +kernel
theorem d_L_474 : decode code 474 = .ok (.iload_n 3, 1) := by decide +kernel
theorem d_L_475 : decode code 475 = .ok (.iconst (2), 1) := by decide +kernel
theorem d_L_476 : decode code 476 = .ok (.iadd, 1) := by decide +kernel
theorem d_L_477 : decode code 477 = .ok (.iaload, 1) := by decide +kernel
theorem d_L_478 : decode code 478 = .ok (.invokevirtual 76, 3) := by decide +kernel
theorem d_L_481 : decode code 481 = .ok (.if_icmp .eq (91), 3) := by decide +kernel
theorem d_L_484 : decode code 484 = .ok (.iconst (0), 1) := by decide +kernel
theorem d_L_485 : decode code 485 = .ok (.ireturn, 1) := by decide +kernel
theorem d_L_486 : decode code 486 = .ok (.aload_n 1, 1) := by decide +kernel
theorem d_L_487 : decode code 487 = .ok (.aload_n 0, 1) := by decide +kernel
theorem d_L_488 : decode code 488 = .ok (.iload_n 3, 1) := by decide +kernel
theorem d_L_489 : decode code 489 = .ok (.iconst (1), 1) := by decide +kernel
theorem d_L_490 : decode code 490 = .ok (.iadd, 1) := by decide +kernel
theorem d_L_491 : decode code 491 = .ok (.iaload, 1) := by decide +kernel
theorem d_L_492 : decode code 492 = .ok (.i2l, 1) := by decide +kernel
theorem d_L_493 : decode code 493 = .ok (.bipush (32), 2) := by decide +kernel
theorem d_L_495 : decode code 495 = .ok (.lshl, 1) := by decide +kernel
theorem d_L_496 : decode code 496 = .ok (.aload_n 0, 1) := by decide +kernel
theorem d_L_497 : decode code 497 = .ok (.iload_n 3, 1) := by decide +kernel
theorem d_L_498 : decode code 498 = .ok (.iconst (2), 1) := by decide +kernel
theorem d_L_499 : decode code 499 = .ok (.iadd, 1) := by decide +kernel
theorem d_L_500 : decode code 500 = .ok (.iaload, 1) := by decide +kernel
theorem d_L_501 : decode code 501 = .ok (.i2l, 1) := by decide +kernel
theorem d_L_502 : decode code 502 = .ok (.ldc2_w 18, 3) := by decide +kernel
theorem d_L_505 : decode code 505 = .ok (.land, 1) := by decide +kernel
theorem d_L_506 : decode code 506 = .ok (.lor, 1) := by decide +kernel
theorem d_L_507 : decode code 507 = .ok (.aload_n 0, 1) := by decide +kernel
theorem d_L_508 : decode code 508 = .ok (.iload_n 3, 1) := by decide +kernel
theorem d_L_509 : decode code 509 = .ok (.iconst (3), 1) := by decide +kernel
theorem d_L_510 : decode code 510 = .ok (.iadd, 1) := by decide +kernel
theorem d_L_511 : decode code 511 = .ok (.iaload, 1) := by decide +kernel
theorem d_L_512 : decode code 512 = .ok (.invokevirtual 77, 3) := by decide +kernel
theorem d_L_515 : decode code 515 = .ok (.aload_n 2, 1) := by decide +kernel
theorem d_L_516 : decode code 516 = .ok (.aload_n 0, 1) := by decide +kernel
theorem d_L_517 : decode code 517 = .ok (.iload_n 3, 1) := by decide +kernel
theorem d_L_518 : decode code 518 = .ok (.iconst (1), 1) := by decide +kernel
theorem d_L_519 : decode code 519 = .ok (.iadd, 1) := by decide +kernel
theorem d_L_520 : decode code 520 = .ok (.iaload, 1) := by decide +kernel
theorem d_L_521 : decode code 521 = .ok (.i2l, 1) := by decide +kernel
theorem d_L_522 : decode code 522 = .ok (.bipush (32), 2) := by decide +kernel
theorem d_L_524 : decode code 524 = .ok (.lshl, 1) := by decide +kernel
theorem d_L_525 : decode code 525 = .ok (.aload_n 0, 1) := by decide +kernel
theorem d_L_526 : decode code 526 = .ok (.iload_n 3, 1) := by decide +kernel
theorem d_L_527 : decode code 527 = .ok (.iconst (2), 1) := by decide +kernel
theorem d_L_528 : decode code 528 = .ok (.iadd, 1) := by decide +kernel
theorem d_L_529 : decode code 529 = .ok (.iaload, 1) := by decide +kernel
theorem d_L_530 : decode code 530 = .ok (.i2l, 1) := by decide +kernel
theorem d_L_531 : decode code 531 = .ok (.ldc2_w 18, 3) := by decide +kernel
theorem d_L_534 : decode code 534 = .ok (.land, 1) := by decide +kernel
theorem d_L_535 : decode code 535 = .ok (.lor, 1) := by decide +kernel
theorem d_L_536 : decode code 536 = .ok (.aload_n 0, 1) := by decide +kernel
theorem d_L_537 : decode code 537 = .ok (.iload_n 3, 1) := by decide +kernel
theorem d_L_538 : decode code 538 = .ok (.iconst (3), 1) := by decide +kernel
theorem d_L_539 : decode code 539 = .ok (.iadd, 1) := by decide +kernel
theorem d_L_540 : decode code 540 = .ok (.iaload, 1) := by decide +kernel
theorem d_L_541 : decode code 541 = .ok (.invokevirtual 81, 3) := by decide +kernel
theorem d_L_544 : decode code 544 = .ok (.if_icmp .eq (28), 3) := by decide +kernel
theorem d_L_547 : decode code 547 = .ok (.iconst (0), 1) := by decide +kernel
theorem d_L_548 : decode code 548 = .ok (.ireturn, 1) := by decide +kernel
theorem d_L_549 : decode code 549 = .ok (.aload_n 1, 1) := by decide +kernel
theorem d_L_550 : decode code 550 = .ok (.aload_n 0, 1) := by decide +kernel
theorem d_L_551 : decode code 551 = .ok (.iload_n 3, 1) := by decide +kernel
theorem d_L_552 : decode code 552 = .ok (.iconst (1), 1) := by decide +kernel
theorem d_L_553 : decode code 553 = .ok (.iadd, 1) := by decide +kernel
theorem d_L_554 : decode code 554 = .ok (.iaload, 1) := by decide +kernel
theorem d_L_555 : decode code 555 = .ok (.invokevirtual 82, 3) := by decide +kernel
theorem d_L_558 : decode code 558 = .ok (.aload_n 2, 1) := by decide +kernel
theorem d_L_559 : decode code 559 = .ok (.aload_n 0, 1) := by decide +kernel
theorem d_L_560 : decode code 560 = .ok (.iload_n 3, 1) := by decide +kernel
theorem d_L_561 : decode code 561 = .ok (.iconst (1), 1) := by decide +kernel
theorem d_L_562 : decode code 562 = .ok (.iadd, 1) := by decide +kernel
theorem d_L_563 : decode code 563 = .ok (.iaload, 1) := by decide +kernel
theorem d_L_564 : decode code 564 = .ok (.invokevirtual 86, 3) := by decide +kernel
theorem d_L_567 : decode code 567 = .ok (.if_icmp .eq (5), 3) := by decide +kernel
theorem d_L_570 : decode code 570 = .ok (.iconst (0), 1) := by decide +kernel
theorem d_L_571 : decode code 571 = .ok (.ireturn, 1) := by decide +kernel
theorem d_L_572 : decode code 572 = .ok (.iinc 3 (6), 3) := by decide +kernel
theorem d_L_575 : decode code 575 = .ok (.goto (-557), 3) := by decide +kernel
theorem d_L_578 : decode code 578 = .ok (.iconst (1), 1) := by decide +kernel
theorem d_L_579 : decode code 579 = .ok (.ireturn, 1) := by decide +kernel
