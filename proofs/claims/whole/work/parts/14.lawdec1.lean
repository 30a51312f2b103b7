theorem d_L_law_0 : decode c_L_law 0 = .ok (.new 8, 3) := by decide +kernel
theorem d_L_law_3 : decode c_L_law 3 = .ok (.dup, 1) := by decide +kernel
theorem d_L_law_4 : decode c_L_law 4 = .ok (.aload_n 0, 1) := by decide +kernel
theorem d_L_law_5 : decode c_L_law 5 = .ok (.iconst 0, 1) := by decide +kernel
theorem d_L_law_6 : decode c_L_law 6 = .ok (.invokestatic 88, 3) := by decide +kernel
theorem d_L_law_9 : decode c_L_law 9 = .ok (.aload_n 0, 1) := by decide +kernel
theorem d_L_law_10 : decode c_L_law 10 = .ok (.iconst 1, 1) := by decide +kernel
theorem d_L_law_11 : decode c_L_law 11 = .ok (.invokestatic 88, 3) := by decide +kernel
theorem d_L_law_14 : decode c_L_law 14 = .ok (.invokespecial 94, 3) := by decide +kernel
theorem d_L_law_17 : decode c_L_law 17 = .ok (.astore_n 1, 1) := by decide +kernel
theorem d_L_law_18 : decode c_L_law 18 = .ok (.new 96, 3) := by decide +kernel
theorem d_L_law_21 : decode c_L_law 21 = .ok (.dup, 1) := by decide +kernel
theorem d_L_law_22 : decode c_L_law 22 = .ok (.aload_n 0, 1) := by decide +kernel
theorem d_L_law_23 : decode c_L_law 23 = .ok (.iconst 0, 1) := by decide +kernel
theorem d_L_law_24 : decode c_L_law 24 = .ok (.invokestatic 88, 3) := by decide +kernel
theorem d_L_law_27 : decode c_L_law 27 = .ok (.aload_n 0, 1) := by decide +kernel
theorem d_L_law_28 : decode c_L_law 28 = .ok (.iconst 1, 1) := by decide +kernel
theorem d_L_law_29 : decode c_L_law 29 = .ok (.invokestatic 88, 3) := by decide +kernel
theorem d_L_law_32 : decode c_L_law 32 = .ok (.invokespecial 98, 3) := by decide +kernel
theorem d_L_law_35 : decode c_L_law 35 = .ok (.astore_n 2, 1) := by decide +kernel
theorem d_L_law_36 : decode c_L_law 36 = .ok (.iconst 1, 1) := by decide +kernel
theorem d_L_law_37 : decode c_L_law 37 = .ok (.newarray .long, 2) := by decide +kernel
theorem d_L_law_39 : decode c_L_law 39 = .ok (.astore_n 3, 1) := by decide +kernel
theorem d_L_law_40 : decode c_L_law 40 = .ok (.iconst 2, 1) := by decide +kernel
theorem d_L_law_41 : decode c_L_law 41 = .ok (.istore 4, 2) := by decide +kernel
theorem d_L_law_43 : decode c_L_law 43 = .ok (.iload 4, 2) := by decide +kernel
theorem d_L_law_45 : decode c_L_law 45 = .ok (.aload_n 0, 1) := by decide +kernel
theorem d_L_law_46 : decode c_L_law 46 = .ok (.arraylength, 1) := by decide +kernel
theorem d_L_law_47 : decode c_L_law 47 = .ok (.iconst 5, 1) := by decide +kernel
theorem d_L_law_48 : decode c_L_law 48 = .ok (.isub, 1) := by decide +kernel
theorem d_L_law_49 : decode c_L_law 49 = .ok (.if_icmp .gt 1486, 3) := by decide +kernel
theorem d_L_law_52 : decode c_L_law 52 = .ok (.aload_n 0, 1) := by decide +kernel
theorem d_L_law_53 : decode c_L_law 53 = .ok (.iload 4, 2) := by decide +kernel
theorem d_L_law_55 : decode c_L_law 55 = .ok (.iaload, 1) := by decide +kernel
theorem d_L_law_56 : decode c_L_law 56 = .ok (.bipush 31, 2) := by decide +kernel
theorem d_L_law_58 : decode c_L_law 58 = .ok (.iand, 1) := by decide +kernel
theorem d_L_law_59 : decode c_L_law 59 = .ok (.tableswitch 1470 0 22 #[105, 153, 201, 237, 345, 413, 505, 565, 625, 705, 753, 801, 869, 961, 1017, 1073, 1129, 1177, 1190, 1203, 1283, 1339, 1414], 105) := by decide +kernel
theorem d_L_law_164 : decode c_L_law 164 = .ok (.aload_n 1, 1) := by decide +kernel
theorem d_L_law_165 : decode c_L_law 165 = .ok (.aload_n 0, 1) := by decide +kernel
theorem d_L_law_166 : decode c_L_law 166 = .ok (.iload 4, 2) := by decide +kernel
theorem d_L_law_168 : decode c_L_law 168 = .ok (.iconst 1, 1) := by decide +kernel
theorem d_L_law_169 : decode c_L_law 169 = .ok (.iadd, 1) := by decide +kernel
theorem d_L_law_170 : decode c_L_law 170 = .ok (.iaload, 1) := by decide +kernel
theorem d_L_law_171 : decode c_L_law 171 = .ok (.aload_n 0, 1) := by decide +kernel
theorem d_L_law_172 : decode c_L_law 172 = .ok (.iload 4, 2) := by decide +kernel
theorem d_L_law_174 : decode c_L_law 174 = .ok (.iconst 2, 1) := by decide +kernel
theorem d_L_law_175 : decode c_L_law 175 = .ok (.iadd, 1) := by decide +kernel
theorem d_L_law_176 : decode c_L_law 176 = .ok (.iaload, 1) := by decide +kernel
theorem d_L_law_177 : decode c_L_law 177 = .ok (.invokestatic 99, 3) := by decide +kernel
theorem d_L_law_180 : decode c_L_law 180 = .ok (.istore 5, 2) := by decide +kernel
theorem d_L_law_182 : decode c_L_law 182 = .ok (.aload_n 2, 1) := by decide +kernel
theorem d_L_law_183 : decode c_L_law 183 = .ok (.aload_n 0, 1) := by decide +kernel
theorem d_L_law_184 : decode c_L_law 184 = .ok (.iload 4, 2) := by decide +kernel
theorem d_L_law_186 : decode c_L_law 186 = .ok (.iconst 1, 1) := by decide +kernel
theorem d_L_law_187 : decode c_L_law 187 = .ok (.iadd, 1) := by decide +kernel
theorem d_L_law_188 : decode c_L_law 188 = .ok (.iaload, 1) := by decide +kernel
theorem d_L_law_189 : decode c_L_law 189 = .ok (.aload_n 0, 1) := by decide +kernel
theorem d_L_law_190 : decode c_L_law 190 = .ok (.iload 4, 2) := by decide +kernel
theorem d_L_law_192 : decode c_L_law 192 = .ok (.iconst 2, 1) := by decide +kernel
theorem d_L_law_193 : decode c_L_law 193 = .ok (.iadd, 1) := by decide +kernel
theorem d_L_law_194 : decode c_L_law 194 = .ok (.iaload, 1) := by decide +kernel
theorem d_L_law_195 : decode c_L_law 195 = .ok (.invokevirtual 102, 3) := by decide +kernel
theorem d_L_law_198 : decode c_L_law 198 = .ok (.aload_n 2, 1) := by decide +kernel
theorem d_L_law_199 : decode c_L_law 199 = .ok (.invokevirtual 103, 3) := by decide +kernel
theorem d_L_law_202 : decode c_L_law 202 = .ok (.iload 5, 2) := by decide +kernel
theorem d_L_law_204 : decode c_L_law 204 = .ok (.if_icmp .eq 5, 3) := by decide +kernel
theorem d_L_law_207 : decode c_L_law 207 = .ok (.iconst 0, 1) := by decide +kernel
theorem d_L_law_208 : decode c_L_law 208 = .ok (.ireturn, 1) := by decide +kernel
theorem d_L_law_209 : decode c_L_law 209 = .ok (.goto 1320, 3) := by decide +kernel
theorem d_L_law_212 : decode c_L_law 212 = .ok (.aload_n 1, 1) := by decide +kernel
theorem d_L_law_213 : decode c_L_law 213 = .ok (.aload_n 0, 1) := by decide +kernel
theorem d_L_law_214 : decode c_L_law 214 = .ok (.iload 4, 2) := by decide +kernel
theorem d_L_law_216 : decode c_L_law 216 = .ok (.iconst 1, 1) := by decide +kernel
theorem d_L_law_217 : decode c_L_law 217 = .ok (.iadd, 1) := by decide +kernel
theorem d_L_law_218 : decode c_L_law 218 = .ok (.iaload, 1) := by decide +kernel
theorem d_L_law_219 : decode c_L_law 219 = .ok (.aload_n 0, 1) := by decide +kernel
theorem d_L_law_220 : decode c_L_law 220 = .ok (.iload 4, 2) := by decide +kernel
theorem d_L_law_222 : decode c_L_law 222 = .ok (.iconst 2, 1) := by decide +kernel
theorem d_L_law_223 : decode c_L_law 223 = .ok (.iadd, 1) := by decide +kernel
theorem d_L_law_224 : decode c_L_law 224 = .ok (.iaload, 1) := by decide +kernel
theorem d_L_law_225 : decode c_L_law 225 = .ok (.invokestatic 107, 3) := by decide +kernel
theorem d_L_law_228 : decode c_L_law 228 = .ok (.istore 5, 2) := by decide +kernel
theorem d_L_law_230 : decode c_L_law 230 = .ok (.aload_n 2, 1) := by decide +kernel
theorem d_L_law_231 : decode c_L_law 231 = .ok (.aload_n 0, 1) := by decide +kernel
theorem d_L_law_232 : decode c_L_law 232 = .ok (.iload 4, 2) := by decide +kernel
theorem d_L_law_234 : decode c_L_law 234 = .ok (.iconst 1, 1) := by decide +kernel
theorem d_L_law_235 : decode c_L_law 235 = .ok (.iadd, 1) := by decide +kernel
theorem d_L_law_236 : decode c_L_law 236 = .ok (.iaload, 1) := by decide +kernel
theorem d_L_law_237 : decode c_L_law 237 = .ok (.aload_n 0, 1) := by decide +kernel
theorem d_L_law_238 : decode c_L_law 238 = .ok (.iload 4, 2) := by decide +kernel
theorem d_L_law_240 : decode c_L_law 240 = .ok (.iconst 2, 1) := by decide +kernel
theorem d_L_law_241 : decode c_L_law 241 = .ok (.iadd, 1) := by decide +kernel
theorem d_L_law_242 : decode c_L_law 242 = .ok (.iaload, 1) := by decide +kernel
theorem d_L_law_243 : decode c_L_law 243 = .ok (.invokevirtual 109, 3) := by decide +kernel
theorem d_L_law_246 : decode c_L_law 246 = .ok (.aload_n 2, 1) := by decide +kernel
theorem d_L_law_247 : decode c_L_law 247 = .ok (.invokevirtual 103, 3) := by decide +kernel
theorem d_L_law_250 : decode c_L_law 250 = .ok (.iload 5, 2) := by decide +kernel
theorem d_L_law_252 : decode c_L_law 252 = .ok (.if_icmp .eq 5, 3) := by decide +kernel
theorem d_L_law_255 : decode c_L_law 255 = .ok (.iconst 0, 1) := by decide +kernel
theorem d_L_law_256 : decode c_L_law 256 = .ok (.ireturn, 1) := by decide +kernel
theorem d_L_law_257 : decode c_L_law 257 = .ok (.goto 1272, 3) := by decide +kernel
theorem d_L_law_260 : decode c_L_law 260 = .ok (.aload_n 1, 1) := by decide +kernel
theorem d_L_law_261 : decode c_L_law 261 = .ok (.aload_n 0, 1) := by decide +kernel
theorem d_L_law_262 : decode c_L_law 262 = .ok (.iload 4, 2) := by decide +kernel
theorem d_L_law_264 : decode c_L_law 264 = .ok (.iconst 1, 1) := by decide +kernel
theorem d_L_law_265 : decode c_L_law 265 = .ok (.iadd, 1) := by decide +kernel
theorem d_L_law_266 : decode c_L_law 266 = .ok (.iaload, 1) := by decide +kernel
theorem d_L_law_267 : decode c_L_law 267 = .ok (.invokestatic 110, 3) := by decide +kernel
theorem d_L_law_270 : decode c_L_law 270 = .ok (.istore 5, 2) := by decide +kernel
theorem d_L_law_272 : decode c_L_law 272 = .ok (.aload_n 2, 1) := by decide +kernel
theorem d_L_law_273 : decode c_L_law 273 = .ok (.aload_n 0, 1) := by decide +kernel
theorem d_L_law_274 : decode c_L_law 274 = .ok (.iload 4, 2) := by decide +kernel
theorem d_L_law_276 : decode c_L_law 276 = .ok (.iconst 1, 1) := by decide +kernel
theorem d_L_law_277 : decode c_L_law 277 = .ok (.iadd, 1) := by decide +kernel
theorem d_L_law_278 : decode c_L_law 278 = .ok (.iaload, 1) := by decide +kernel
theorem d_L_law_279 : decode c_L_law 279 = .ok (.invokevirtual 113, 3) := by decide +kernel
theorem d_L_law_282 : decode c_L_law 282 = .ok (.aload_n 2, 1) := by decide +kernel
theorem d_L_law_283 : decode c_L_law 283 = .ok (.invokevirtual 103, 3) := by decide +kernel
theorem d_L_law_286 : decode c_L_law 286 = .ok (.iload 5, 2) := by decide +kernel
theorem d_L_law_288 : decode c_L_law 288 = .ok (.if_icmp .eq 5, 3) := by decide +kernel
theorem d_L_law_291 : decode c_L_law 291 = .ok (.iconst 0, 1) := by decide +kernel
theorem d_L_law_292 : decode c_L_law 292 = .ok (.ireturn, 1) := by decide +kernel
theorem d_L_law_293 : decode c_L_law 293 = .ok (.goto 1236, 3) := by decide +kernel
theorem d_L_law_296 : decode c_L_law 296 = .ok (.aload_n 1, 1) := by decide +kernel
theorem d_L_law_297 : decode c_L_law 297 = .ok (.aload_n 0, 1) := by decide +kernel
theorem d_L_law_298 : decode c_L_law 298 = .ok (.iload 4, 2) := by decide +kernel
theorem d_L_law_300 : decode c_L_law 300 = .ok (.iconst 1, 1) := by decide +kernel
theorem d_L_law_301 : decode c_L_law 301 = .ok (.iadd, 1) := by decide +kernel
theorem d_L_law_302 : decode c_L_law 302 = .ok (.iaload, 1) := by decide +kernel
theorem d_L_law_303 : decode c_L_law 303 = .ok (.aload_n 0, 1) := by decide +kernel
theorem d_L_law_304 : decode c_L_law 304 = .ok (.iload 4, 2) := by decide +kernel
theorem d_L_law_306 : decode c_L_law 306 = .ok (.iconst 2, 1) := by decide +kernel
theorem d_L_law_307 : decode c_L_law 307 = .ok (.iadd, 1) := by decide +kernel
theorem d_L_law_308 : decode c_L_law 308 = .ok (.iaload, 1) := by decide +kernel
theorem d_L_law_309 : decode c_L_law 309 = .ok (.aload_n 0, 1) := by decide +kernel
theorem d_L_law_310 : decode c_L_law 310 = .ok (.iload 4, 2) := by decide +kernel
theorem d_L_law_312 : decode c_L_law 312 = .ok (.iconst 3, 1) := by decide +kernel
theorem d_L_law_313 : decode c_L_law 313 = .ok (.iadd, 1) := by decide +kernel
theorem d_L_law_314 : decode c_L_law 314 = .ok (.iaload, 1) := by decide +kernel
theorem d_L_law_315 : decode c_L_law 315 = .ok (.aload_n 0, 1) := by decide +kernel
theorem d_L_law_316 : decode c_L_law 316 = .ok (.iload 4, 2) := by decide +kernel
theorem d_L_law_318 : decode c_L_law 318 = .ok (.iconst 4, 1) := by decide +kernel
theorem d_L_law_319 : decode c_L_law 319 = .ok (.iadd, 1) := by decide +kernel
theorem d_L_law_320 : decode c_L_law 320 = .ok (.iaload, 1) := by decide +kernel
theorem d_L_law_321 : decode c_L_law 321 = .ok (.ifCond .eq 7, 3) := by decide +kernel
theorem d_L_law_324 : decode c_L_law 324 = .ok (.iconst 1, 1) := by decide +kernel
theorem d_L_law_325 : decode c_L_law 325 = .ok (.goto 4, 3) := by decide +kernel
theorem d_L_law_328 : decode c_L_law 328 = .ok (.iconst 0, 1) := by decide +kernel
theorem d_L_law_329 : decode c_L_law 329 = .ok (.aload_n 3, 1) := by decide +kernel
theorem d_L_law_330 : decode c_L_law 330 = .ok (.invokestatic 114, 3) := by decide +kernel
theorem d_L_law_333 : decode c_L_law 333 = .ok (.istore 5, 2) := by decide +kernel
theorem d_L_law_335 : decode c_L_law 335 = .ok (.aload_n 2, 1) := by decide +kernel
theorem d_L_law_336 : decode c_L_law 336 = .ok (.aload_n 0, 1) := by decide +kernel
theorem d_L_law_337 : decode c_L_law 337 = .ok (.iload 4, 2) := by decide +kernel
theorem d_L_law_339 : decode c_L_law 339 = .ok (.iconst 1, 1) := by decide +kernel
theorem d_L_law_340 : decode c_L_law 340 = .ok (.iadd, 1) := by decide +kernel
theorem d_L_law_341 : decode c_L_law 341 = .ok (.iaload, 1) := by decide +kernel
theorem d_L_law_342 : decode c_L_law 342 = .ok (.aload_n 0, 1) := by decide +kernel
theorem d_L_law_343 : decode c_L_law 343 = .ok (.iload 4, 2) := by decide +kernel
theorem d_L_law_345 : decode c_L_law 345 = .ok (.iconst 2, 1) := by decide +kernel
theorem d_L_law_346 : decode c_L_law 346 = .ok (.iadd, 1) := by decide +kernel
theorem d_L_law_347 : decode c_L_law 347 = .ok (.iaload, 1) := by decide +kernel
theorem d_L_law_348 : decode c_L_law 348 = .ok (.aload_n 0, 1) := by decide +kernel
theorem d_L_law_349 : decode c_L_law 349 = .ok (.iload 4, 2) := by decide +kernel
theorem d_L_law_351 : decode c_L_law 351 = .ok (.iconst 3, 1) := by decide +kernel
theorem d_L_law_352 : decode c_L_law 352 = .ok (.iadd, 1) := by decide +kernel
theorem d_L_law_353 : decode c_L_law 353 = .ok (.iaload, 1) := by decide +kernel
theorem d_L_law_354 : decode c_L_law 354 = .ok (.aload_n 0, 1) := by decide +kernel
theorem d_L_law_355 : decode c_L_law 355 = .ok (.iload 4, 2) := by decide +kernel
theorem d_L_law_357 : decode c_L_law 357 = .ok (.iconst 4, 1) := by decide +kernel
theorem d_L_law_358 : decode c_L_law 358 = .ok (.iadd, 1) := by decide +kernel
theorem d_L_law_359 : decode c_L_law 359 = .ok (.iaload, 1) := by decide +kernel
theorem d_L_law_360 : decode c_L_law 360 = .ok (.ifCond .eq 7, 3) := by decide +kernel
theorem d_L_law_363 : decode c_L_law 363 = .ok (.iconst 1, 1) := by decide +kernel
theorem d_L_law_364 : decode c_L_law 364 = .ok (.goto 4, 3) := by decide +kernel
theorem d_L_law_367 : decode c_L_law 367 = .ok (.iconst 0, 1) := by decide +kernel
theorem d_L_law_368 : decode c_L_law 368 = .ok (.invokevirtual 117, 3) := by decide +kernel
theorem d_L_law_371 : decode c_L_law 371 = .ok (.istore 6, 2) := by decide +kernel
theorem d_L_law_373 : decode c_L_law 373 = .ok (.aload_n 2, 1) := by decide +kernel
theorem d_L_law_374 : decode c_L_law 374 = .ok (.invokevirtual 103, 3) := by decide +kernel
theorem d_L_law_377 : decode c_L_law 377 = .ok (.iload 5, 2) := by decide +kernel
theorem d_L_law_379 : decode c_L_law 379 = .ok (.if_icmp .eq 5, 3) := by decide +kernel
theorem d_L_law_382 : decode c_L_law 382 = .ok (.iconst 0, 1) := by decide +kernel
theorem d_L_law_383 : decode c_L_law 383 = .ok (.ireturn, 1) := by decide +kernel
theorem d_L_law_384 : decode c_L_law 384 = .ok (.iload 5, 2) := by decide +kernel
theorem d_L_law_386 : decode c_L_law 386 = .ok (.ifCond .ne 15, 3) := by decide +kernel
theorem d_L_law_389 : decode c_L_law 389 = .ok (.aload_n 3, 1) := by decide +kernel
theorem d_L_law_390 : decode c_L_law 390 = .ok (.iconst 0, 1) := by decide +kernel
theorem d_L_law_391 : decode c_L_law 391 = .ok (.laload, 1) := by decide +kernel
theorem d_L_law_392 : decode c_L_law 392 = .ok (.iload 6, 2) := by decide +kernel
theorem d_L_law_394 : decode c_L_law 394 = .ok (.i2l, 1) := by decide +kernel
theorem d_L_law_395 : decode c_L_law 395 = .ok (.lcmp, 1) := by decide +kernel
theorem d_L_law_396 : decode c_L_law 396 = .ok (.ifCond .eq 5, 3) := by decide +kernel
theorem d_L_law_399 : decode c_L_law 399 = .ok (.iconst 0, 1) := by decide +kernel
theorem d_L_law_400 : decode c_L_law 400 = .ok (.ireturn, 1) := by decide +kernel
theorem d_L_law_401 : decode c_L_law 401 = .ok (.goto 1128, 3) := by decide +kernel
theorem d_L_law_404 : decode c_L_law 404 = .ok (.aload_n 1, 1) := by decide +kernel
theorem d_L_law_405 : decode c_L_law 405 = .ok (.aload_n 0, 1) := by decide +kernel
theorem d_L_law_406 : decode c_L_law 406 = .ok (.iload 4, 2) := by decide +kernel
theorem d_L_law_408 : decode c_L_law 408 = .ok (.iconst 1, 1) := by decide +kernel
theorem d_L_law_409 : decode c_L_law 409 = .ok (.iadd, 1) := by decide +kernel
theorem d_L_law_410 : decode c_L_law 410 = .ok (.iaload, 1) := by decide +kernel
theorem d_L_law_411 : decode c_L_law 411 = .ok (.aload_n 0, 1) := by decide +kernel
theorem d_L_law_412 : decode c_L_law 412 = .ok (.iload 4, 2) := by decide +kernel
theorem d_L_law_414 : decode c_L_law 414 = .ok (.iconst 2, 1) := by decide +kernel
theorem d_L_law_415 : decode c_L_law 415 = .ok (.iadd, 1) := by decide +kernel
theorem d_L_law_416 : decode c_L_law 416 = .ok (.iaload, 1) := by decide +kernel
theorem d_L_law_417 : decode c_L_law 417 = .ok (.aload_n 3, 1) := by decide +kernel
theorem d_L_law_418 : decode c_L_law 418 = .ok (.invokestatic 118, 3) := by decide +kernel
theorem d_L_law_421 : decode c_L_law 421 = .ok (.istore 5, 2) := by decide +kernel
theorem d_L_law_423 : decode c_L_law 423 = .ok (.aload_n 2, 1) := by decide +kernel
theorem d_L_law_424 : decode c_L_law 424 = .ok (.aload_n 0, 1) := by decide +kernel
theorem d_L_law_425 : decode c_L_law 425 = .ok (.iload 4, 2) := by decide +kernel
theorem d_L_law_427 : decode c_L_law 427 = .ok (.iconst 1, 1) := by decide +kernel
theorem d_L_law_428 : decode c_L_law 428 = .ok (.iadd, 1) := by decide +kernel
theorem d_L_law_429 : decode c_L_law 429 = .ok (.iaload, 1) := by decide +kernel
theorem d_L_law_430 : decode c_L_law 430 = .ok (.aload_n 0, 1) := by decide +kernel
theorem d_L_law_431 : decode c_L_law 431 = .ok (.iload 4, 2) := by decide +kernel
theorem d_L_law_433 : decode c_L_law 433 = .ok (.iconst 2, 1) := by decide +kernel
theorem d_L_law_434 : decode c_L_law 434 = .ok (.iadd, 1) := by decide +kernel
theorem d_L_law_435 : decode c_L_law 435 = .ok (.iaload, 1) := by decide +kernel
theorem d_L_law_436 : decode c_L_law 436 = .ok (.invokevirtual 121, 3) := by decide +kernel
theorem d_L_law_439 : decode c_L_law 439 = .ok (.istore 6, 2) := by decide +kernel
theorem d_L_law_441 : decode c_L_law 441 = .ok (.aload_n 2, 1) := by decide +kernel
theorem d_L_law_442 : decode c_L_law 442 = .ok (.invokevirtual 103, 3) := by decide +kernel
theorem d_L_law_445 : decode c_L_law 445 = .ok (.iload 5, 2) := by decide +kernel
theorem d_L_law_447 : decode c_L_law 447 = .ok (.if_icmp .eq 5, 3) := by decide +kernel
theorem d_L_law_450 : decode c_L_law 450 = .ok (.iconst 0, 1) := by decide +kernel
theorem d_L_law_451 : decode c_L_law 451 = .ok (.ireturn, 1) := by decide +kernel
theorem d_L_law_452 : decode c_L_law 452 = .ok (.iload 5, 2) := by decide +kernel
theorem d_L_law_454 : decode c_L_law 454 = .ok (.ifCond .ne 15, 3) := by decide +kernel
theorem d_L_law_457 : decode c_L_law 457 = .ok (.aload_n 3, 1) := by decide +kernel
theorem d_L_law_458 : decode c_L_law 458 = .ok (.iconst 0, 1) := by decide +kernel
theorem d_L_law_459 : decode c_L_law 459 = .ok (.laload, 1) := by decide +kernel
theorem d_L_law_460 : decode c_L_law 460 = .ok (.iload 6, 2) := by decide +kernel
theorem d_L_law_462 : decode c_L_law 462 = .ok (.i2l, 1) := by decide +kernel
theorem d_L_law_463 : decode c_L_law 463 = .ok (.lcmp, 1) := by decide +kernel
theorem d_L_law_464 : decode c_L_law 464 = .ok (.ifCond .eq 5, 3) := by decide +kernel
theorem d_L_law_467 : decode c_L_law 467 = .ok (.iconst 0, 1) := by decide +kernel
theorem d_L_law_468 : decode c_L_law 468 = .ok (.ireturn, 1) := by decide +kernel
theorem d_L_law_469 : decode c_L_law 469 = .ok (.goto 1060, 3) := by decide +kernel
theorem d_L_law_472 : decode c_L_law 472 = .ok (.aload_n 1, 1) := by decide +kernel
theorem d_L_law_473 : decode c_L_law 473 = .ok (.aload_n 0, 1) := by decide +kernel
theorem d_L_law_474 : decode c_L_law 474 = .ok (.iload 4, 2) := by decide +kernel
theorem d_L_law_476 : decode c_L_law 476 = .ok (.iconst 1, 1) := by decide +kernel
theorem d_L_law_477 : decode c_L_law 477 = .ok (.iadd, 1) := by decide +kernel
theorem d_L_law_478 : decode c_L_law 478 = .ok (.iaload, 1) := by decide +kernel
theorem d_L_law_479 : decode c_L_law 479 = .ok (.aload_n 0, 1) := by decide +kernel
theorem d_L_law_480 : decode c_L_law 480 = .ok (.iload 4, 2) := by decide +kernel
theorem d_L_law_482 : decode c_L_law 482 = .ok (.iconst 2, 1) := by decide +kernel
theorem d_L_law_483 : decode c_L_law 483 = .ok (.iadd, 1) := by decide +kernel
theorem d_L_law_484 : decode c_L_law 484 = .ok (.iaload, 1) := by decide +kernel
theorem d_L_law_485 : decode c_L_law 485 = .ok (.aload_n 0, 1) := by decide +kernel
theorem d_L_law_486 : decode c_L_law 486 = .ok (.iload 4, 2) := by decide +kernel
theorem d_L_law_488 : decode c_L_law 488 = .ok (.iconst 3, 1) := by decide +kernel
theorem d_L_law_489 : decode c_L_law 489 = .ok (.iadd, 1) := by decide +kernel
theorem d_L_law_490 : decode c_L_law 490 = .ok (.iaload, 1) := by decide +kernel
theorem d_L_law_491 : decode c_L_law 491 = .ok (.aload_n 0, 1) := by decide +kernel
theorem d_L_law_492 : decode c_L_law 492 = .ok (.iload 4, 2) := by decide +kernel
theorem d_L_law_494 : decode c_L_law 494 = .ok (.iconst 4, 1) := by decide +kernel
theorem d_L_law_495 : decode c_L_law 495 = .ok (.iadd, 1) := by decide +kernel
theorem d_L_law_496 : decode c_L_law 496 = .ok (.iaload, 1) := by decide +kernel
theorem d_L_law_497 : decode c_L_law 497 = .ok (.aload_n 3, 1) := by decide +kernel
theorem d_L_law_498 : decode c_L_law 498 = .ok (.invokestatic 122, 3) := by decide +kernel
theorem d_L_law_501 : decode c_L_law 501 = .ok (.istore 5, 2) := by decide +kernel
theorem d_L_law_503 : decode c_L_law 503 = .ok (.aload_n 2, 1) := by decide +kernel
theorem d_L_law_504 : decode c_L_law 504 = .ok (.aload_n 0, 1) := by decide +kernel
theorem d_L_law_505 : decode c_L_law 505 = .ok (.iload 4, 2) := by decide +kernel
theorem d_L_law_507 : decode c_L_law 507 = .ok (.iconst 1, 1) := by decide +kernel
theorem d_L_law_508 : decode c_L_law 508 = .ok (.iadd, 1) := by decide +kernel
theorem d_L_law_509 : decode c_L_law 509 = .ok (.iaload, 1) := by decide +kernel
theorem d_L_law_510 : decode c_L_law 510 = .ok (.aload_n 0, 1) := by decide +kernel
theorem d_L_law_511 : decode c_L_law 511 = .ok (.iload 4, 2) := by decide +kernel
theorem d_L_law_513 : decode c_L_law 513 = .ok (.iconst 2, 1) := by decide +kernel
theorem d_L_law_514 : decode c_L_law 514 = .ok (.iadd, 1) := by decide +kernel
theorem d_L_law_515 : decode c_L_law 515 = .ok (.iaload, 1) := by decide +kernel
theorem d_L_law_516 : decode c_L_law 516 = .ok (.aload_n 0, 1) := by decide +kernel
theorem d_L_law_517 : decode c_L_law 517 = .ok (.iload 4, 2) := by decide +kernel
theorem d_L_law_519 : decode c_L_law 519 = .ok (.iconst 3, 1) := by decide +kernel
theorem d_L_law_520 : decode c_L_law 520 = .ok (.iadd, 1) := by decide +kernel
theorem d_L_law_521 : decode c_L_law 521 = .ok (.iaload, 1) := by decide +kernel
theorem d_L_law_522 : decode c_L_law 522 = .ok (.aload_n 0, 1) := by decide +kernel
theorem d_L_law_523 : decode c_L_law 523 = .ok (.iload 4, 2) := by decide +kernel
theorem d_L_law_525 : decode c_L_law 525 = .ok (.iconst 4, 1) := by decide +kernel
theorem d_L_law_526 : decode c_L_law 526 = .ok (.iadd, 1) := by decide +kernel
theorem d_L_law_527 : decode c_L_law 527 = .ok (.iaload, 1) := by decide +kernel
theorem d_L_law_528 : decode c_L_law 528 = .ok (.invokevirtual 125, 3) := by decide +kernel
theorem d_L_law_531 : decode c_L_law 531 = .ok (.istore 6, 2) := by decide +kernel
theorem d_L_law_533 : decode c_L_law 533 = .ok (.aload_n 2, 1) := by decide +kernel
theorem d_L_law_534 : decode c_L_law 534 = .ok (.invokevirtual 103, 3) := by decide +kernel
theorem d_L_law_537 : decode c_L_law 537 = .ok (.iload 5, 2) := by decide +kernel
theorem d_L_law_539 : decode c_L_law 539 = .ok (.if_icmp .eq 5, 3) := by decide +kernel
theorem d_L_law_542 : decode c_L_law 542 = .ok (.iconst 0, 1) := by decide +kernel
theorem d_L_law_543 : decode c_L_law 543 = .ok (.ireturn, 1) := by decide +kernel
theorem d_L_law_544 : decode c_L_law 544 = .ok (.iload 5, 2) := by decide +kernel
theorem d_L_law_546 : decode c_L_law 546 = .ok (.ifCond .ne 15, 3) := by decide +kernel
theorem d_L_law_549 : decode c_L_law 549 = .ok (.aload_n 3, 1) := by decide +kernel
theorem d_L_law_550 : decode c_L_law 550 = .ok (.iconst 0, 1) := by decide +kernel
theorem d_L_law_551 : decode c_L_law 551 = .ok (.laload, 1) := by decide +kernel
theorem d_L_law_552 : decode c_L_law 552 = .ok (.iload 6, 2) := by decide +kernel
theorem d_L_law_554 : decode c_L_law 554 = .ok (.i2l, 1) := by decide +kernel
theorem d_L_law_555 : decode c_L_law 555 = .ok (.lcmp, 1) := by decide +kernel
theorem d_L_law_556 : decode c_L_law 556 = .ok (.ifCond .eq 5, 3) := by decide +kernel
theorem d_L_law_559 : decode c_L_law 559 = .ok (.iconst 0, 1) := by decide +kernel
theorem d_L_law_560 : decode c_L_law 560 = .ok (.ireturn, 1) := by decide +kernel
theorem d_L_law_561 : decode c_L_law 561 = .ok (.goto 968, 3) := by decide +kernel
theorem d_L_law_564 : decode c_L_law 564 = .ok (.aload_n 1, 1) := by decide +kernel
theorem d_L_law_565 : decode c_L_law 565 = .ok (.aload_n 0, 1) := by decide +kernel
theorem d_L_law_566 : decode c_L_law 566 = .ok (.iload 4, 2) := by decide +kernel
theorem d_L_law_568 : decode c_L_law 568 = .ok (.iconst 1, 1) := by decide +kernel
theorem d_L_law_569 : decode c_L_law 569 = .ok (.iadd, 1) := by decide +kernel
theorem d_L_law_570 : decode c_L_law 570 = .ok (.iaload, 1) := by decide +kernel
theorem d_L_law_571 : decode c_L_law 571 = .ok (.aload_n 0, 1) := by decide +kernel
theorem d_L_law_572 : decode c_L_law 572 = .ok (.iload 4, 2) := by decide +kernel
theorem d_L_law_574 : decode c_L_law 574 = .ok (.iconst 2, 1) := by decide +kernel
theorem d_L_law_575 : decode c_L_law 575 = .ok (.iadd, 1) := by decide +kernel
theorem d_L_law_576 : decode c_L_law 576 = .ok (.iaload, 1) := by decide +kernel
theorem d_L_law_577 : decode c_L_law 577 = .ok (.aload_n 0, 1) := by decide +kernel
theorem d_L_law_578 : decode c_L_law 578 = .ok (.iload 4, 2) := by decide +kernel
theorem d_L_law_580 : decode c_L_law 580 = .ok (.iconst 3, 1) := by decide +kernel
