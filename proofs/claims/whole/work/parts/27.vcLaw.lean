/-! printed by wip/gen/gen.py: Law -/
theorem d_L_law_0 : decode i_L_law.2.1 0 = .ok (.new 7, 3) := by decide +kernel
theorem d_L_law_3 : decode i_L_law.2.1 3 = .ok (.dup, 1) := by decide +kernel
theorem d_L_law_4 : decode i_L_law.2.1 4 = .ok (.invokespecial 9, 3) := by decide +kernel
theorem d_L_law_7 : decode i_L_law.2.1 7 = .ok (.astore_n 1, 1) := by decide +kernel
theorem d_L_law_8 : decode i_L_law.2.1 8 = .ok (.new 10, 3) := by decide +kernel
theorem d_L_law_11 : decode i_L_law.2.1 11 = .ok (.dup, 1) := by decide +kernel
theorem d_L_law_12 : decode i_L_law.2.1 12 = .ok (.invokespecial 12, 3) := by decide +kernel
theorem d_L_law_15 : decode i_L_law.2.1 15 = .ok (.astore_n 2, 1) := by decide +kernel
theorem d_L_law_16 : decode i_L_law.2.1 16 = .ok (.iconst 0, 1) := by decide +kernel
theorem d_L_law_17 : decode i_L_law.2.1 17 = .ok (.istore_n 3, 1) := by decide +kernel
theorem d_L_law_18 : decode i_L_law.2.1 18 = .ok (.iload_n 3, 1) := by decide +kernel
theorem d_L_law_19 : decode i_L_law.2.1 19 = .ok (.aload_n 0, 1) := by decide +kernel
theorem d_L_law_20 : decode i_L_law.2.1 20 = .ok (.arraylength, 1) := by decide +kernel
theorem d_L_law_21 : decode i_L_law.2.1 21 = .ok (.iconst 4, 1) := by decide +kernel
theorem d_L_law_22 : decode i_L_law.2.1 22 = .ok (.isub, 1) := by decide +kernel
theorem d_L_law_23 : decode i_L_law.2.1 23 = .ok (.if_icmp .gt 1042, 3) := by decide +kernel
theorem d_L_law_26 : decode i_L_law.2.1 26 = .ok (.aload_n 0, 1) := by decide +kernel
theorem d_L_law_27 : decode i_L_law.2.1 27 = .ok (.iload_n 3, 1) := by decide +kernel
theorem d_L_law_28 : decode i_L_law.2.1 28 = .ok (.iaload, 1) := by decide +kernel
theorem d_L_law_29 : decode i_L_law.2.1 29 = .ok (.bipush 63, 2) := by decide +kernel
theorem d_L_law_31 : decode i_L_law.2.1 31 = .ok (.iand, 1) := by decide +kernel
theorem d_L_law_32 : decode i_L_law.2.1 32 = .ok (.tableswitch 1027 0 34 #[156, 179, 192, 205, 228, 251, 284, 317, 340, 353, 376, 399, 432, 455, 468, 491, 514, 547, 590, 633, 666, 689, 712, 735, 758, 781, 814, 873, 886, 899, 932, 945, 958, 981, 1004], 156) := by decide +kernel
theorem d_L_law_188 : decode i_L_law.2.1 188 = .ok (.aload_n 1, 1) := by decide +kernel
theorem d_L_law_189 : decode i_L_law.2.1 189 = .ok (.aload_n 0, 1) := by decide +kernel
theorem d_L_law_190 : decode i_L_law.2.1 190 = .ok (.iload_n 3, 1) := by decide +kernel
theorem d_L_law_191 : decode i_L_law.2.1 191 = .ok (.iconst 1, 1) := by decide +kernel
theorem d_L_law_192 : decode i_L_law.2.1 192 = .ok (.iadd, 1) := by decide +kernel
theorem d_L_law_193 : decode i_L_law.2.1 193 = .ok (.iaload, 1) := by decide +kernel
theorem d_L_law_194 : decode i_L_law.2.1 194 = .ok (.invokevirtual 13, 3) := by decide +kernel
theorem d_L_law_197 : decode i_L_law.2.1 197 = .ok (.aload_n 2, 1) := by decide +kernel
theorem d_L_law_198 : decode i_L_law.2.1 198 = .ok (.aload_n 0, 1) := by decide +kernel
theorem d_L_law_199 : decode i_L_law.2.1 199 = .ok (.iload_n 3, 1) := by decide +kernel
theorem d_L_law_200 : decode i_L_law.2.1 200 = .ok (.iconst 1, 1) := by decide +kernel
theorem d_L_law_201 : decode i_L_law.2.1 201 = .ok (.iadd, 1) := by decide +kernel
theorem d_L_law_202 : decode i_L_law.2.1 202 = .ok (.iaload, 1) := by decide +kernel
theorem d_L_law_203 : decode i_L_law.2.1 203 = .ok (.invokevirtual 17, 3) := by decide +kernel
theorem d_L_law_206 : decode i_L_law.2.1 206 = .ok (.if_icmp .eq 853, 3) := by decide +kernel
theorem d_L_law_209 : decode i_L_law.2.1 209 = .ok (.iconst 0, 1) := by decide +kernel
theorem d_L_law_210 : decode i_L_law.2.1 210 = .ok (.ireturn, 1) := by decide +kernel
theorem d_L_law_211 : decode i_L_law.2.1 211 = .ok (.aload_n 1, 1) := by decide +kernel
theorem d_L_law_212 : decode i_L_law.2.1 212 = .ok (.invokevirtual 18, 3) := by decide +kernel
theorem d_L_law_215 : decode i_L_law.2.1 215 = .ok (.aload_n 2, 1) := by decide +kernel
theorem d_L_law_216 : decode i_L_law.2.1 216 = .ok (.invokevirtual 22, 3) := by decide +kernel
theorem d_L_law_219 : decode i_L_law.2.1 219 = .ok (.if_icmp .eq 840, 3) := by decide +kernel
theorem d_L_law_222 : decode i_L_law.2.1 222 = .ok (.iconst 0, 1) := by decide +kernel
theorem d_L_law_223 : decode i_L_law.2.1 223 = .ok (.ireturn, 1) := by decide +kernel
theorem d_L_law_224 : decode i_L_law.2.1 224 = .ok (.aload_n 1, 1) := by decide +kernel
theorem d_L_law_225 : decode i_L_law.2.1 225 = .ok (.invokevirtual 23, 3) := by decide +kernel
theorem d_L_law_228 : decode i_L_law.2.1 228 = .ok (.aload_n 2, 1) := by decide +kernel
theorem d_L_law_229 : decode i_L_law.2.1 229 = .ok (.invokevirtual 26, 3) := by decide +kernel
theorem d_L_law_232 : decode i_L_law.2.1 232 = .ok (.if_icmp .eq 827, 3) := by decide +kernel
theorem d_L_law_235 : decode i_L_law.2.1 235 = .ok (.iconst 0, 1) := by decide +kernel
theorem d_L_law_236 : decode i_L_law.2.1 236 = .ok (.ireturn, 1) := by decide +kernel
theorem d_L_law_237 : decode i_L_law.2.1 237 = .ok (.aload_n 1, 1) := by decide +kernel
theorem d_L_law_238 : decode i_L_law.2.1 238 = .ok (.aload_n 0, 1) := by decide +kernel
theorem d_L_law_239 : decode i_L_law.2.1 239 = .ok (.iload_n 3, 1) := by decide +kernel
theorem d_L_law_240 : decode i_L_law.2.1 240 = .ok (.iconst 1, 1) := by decide +kernel
theorem d_L_law_241 : decode i_L_law.2.1 241 = .ok (.iadd, 1) := by decide +kernel
theorem d_L_law_242 : decode i_L_law.2.1 242 = .ok (.iaload, 1) := by decide +kernel
theorem d_L_law_243 : decode i_L_law.2.1 243 = .ok (.invokevirtual 27, 3) := by decide +kernel
theorem d_L_law_246 : decode i_L_law.2.1 246 = .ok (.aload_n 2, 1) := by decide +kernel
theorem d_L_law_247 : decode i_L_law.2.1 247 = .ok (.aload_n 0, 1) := by decide +kernel
theorem d_L_law_248 : decode i_L_law.2.1 248 = .ok (.iload_n 3, 1) := by decide +kernel
theorem d_L_law_249 : decode i_L_law.2.1 249 = .ok (.iconst 1, 1) := by decide +kernel
theorem d_L_law_250 : decode i_L_law.2.1 250 = .ok (.iadd, 1) := by decide +kernel
theorem d_L_law_251 : decode i_L_law.2.1 251 = .ok (.iaload, 1) := by decide +kernel
theorem d_L_law_252 : decode i_L_law.2.1 252 = .ok (.invokevirtual 30, 3) := by decide +kernel
theorem d_L_law_255 : decode i_L_law.2.1 255 = .ok (.if_icmp .eq 804, 3) := by decide +kernel
theorem d_L_law_258 : decode i_L_law.2.1 258 = .ok (.iconst 0, 1) := by decide +kernel
theorem d_L_law_259 : decode i_L_law.2.1 259 = .ok (.ireturn, 1) := by decide +kernel
theorem d_L_law_260 : decode i_L_law.2.1 260 = .ok (.aload_n 1, 1) := by decide +kernel
theorem d_L_law_261 : decode i_L_law.2.1 261 = .ok (.aload_n 0, 1) := by decide +kernel
theorem d_L_law_262 : decode i_L_law.2.1 262 = .ok (.iload_n 3, 1) := by decide +kernel
theorem d_L_law_263 : decode i_L_law.2.1 263 = .ok (.iconst 1, 1) := by decide +kernel
theorem d_L_law_264 : decode i_L_law.2.1 264 = .ok (.iadd, 1) := by decide +kernel
theorem d_L_law_265 : decode i_L_law.2.1 265 = .ok (.iaload, 1) := by decide +kernel
theorem d_L_law_266 : decode i_L_law.2.1 266 = .ok (.invokevirtual 31, 3) := by decide +kernel
theorem d_L_law_269 : decode i_L_law.2.1 269 = .ok (.aload_n 2, 1) := by decide +kernel
theorem d_L_law_270 : decode i_L_law.2.1 270 = .ok (.aload_n 0, 1) := by decide +kernel
theorem d_L_law_271 : decode i_L_law.2.1 271 = .ok (.iload_n 3, 1) := by decide +kernel
theorem d_L_law_272 : decode i_L_law.2.1 272 = .ok (.iconst 1, 1) := by decide +kernel
theorem d_L_law_273 : decode i_L_law.2.1 273 = .ok (.iadd, 1) := by decide +kernel
theorem d_L_law_274 : decode i_L_law.2.1 274 = .ok (.iaload, 1) := by decide +kernel
theorem d_L_law_275 : decode i_L_law.2.1 275 = .ok (.invokevirtual 34, 3) := by decide +kernel
theorem d_L_law_278 : decode i_L_law.2.1 278 = .ok (.if_icmp .eq 781, 3) := by decide +kernel
theorem d_L_law_281 : decode i_L_law.2.1 281 = .ok (.iconst 0, 1) := by decide +kernel
theorem d_L_law_282 : decode i_L_law.2.1 282 = .ok (.ireturn, 1) := by decide +kernel
theorem d_L_law_283 : decode i_L_law.2.1 283 = .ok (.aload_n 1, 1) := by decide +kernel
theorem d_L_law_284 : decode i_L_law.2.1 284 = .ok (.aload_n 0, 1) := by decide +kernel
theorem d_L_law_285 : decode i_L_law.2.1 285 = .ok (.iload_n 3, 1) := by decide +kernel
theorem d_L_law_286 : decode i_L_law.2.1 286 = .ok (.iconst 1, 1) := by decide +kernel
theorem d_L_law_287 : decode i_L_law.2.1 287 = .ok (.iadd, 1) := by decide +kernel
theorem d_L_law_288 : decode i_L_law.2.1 288 = .ok (.iaload, 1) := by decide +kernel
theorem d_L_law_289 : decode i_L_law.2.1 289 = .ok (.aload_n 0, 1) := by decide +kernel
theorem d_L_law_290 : decode i_L_law.2.1 290 = .ok (.iload_n 3, 1) := by decide +kernel
theorem d_L_law_291 : decode i_L_law.2.1 291 = .ok (.iconst 2, 1) := by decide +kernel
theorem d_L_law_292 : decode i_L_law.2.1 292 = .ok (.iadd, 1) := by decide +kernel
theorem d_L_law_293 : decode i_L_law.2.1 293 = .ok (.iaload, 1) := by decide +kernel
theorem d_L_law_294 : decode i_L_law.2.1 294 = .ok (.invokevirtual 35, 3) := by decide +kernel
theorem d_L_law_297 : decode i_L_law.2.1 297 = .ok (.aload_n 2, 1) := by decide +kernel
theorem d_L_law_298 : decode i_L_law.2.1 298 = .ok (.aload_n 0, 1) := by decide +kernel
theorem d_L_law_299 : decode i_L_law.2.1 299 = .ok (.iload_n 3, 1) := by decide +kernel
theorem d_L_law_300 : decode i_L_law.2.1 300 = .ok (.iconst 1, 1) := by decide +kernel
theorem d_L_law_301 : decode i_L_law.2.1 301 = .ok (.iadd, 1) := by decide +kernel
theorem d_L_law_302 : decode i_L_law.2.1 302 = .ok (.iaload, 1) := by decide +kernel
theorem d_L_law_303 : decode i_L_law.2.1 303 = .ok (.aload_n 0, 1) := by decide +kernel
theorem d_L_law_304 : decode i_L_law.2.1 304 = .ok (.iload_n 3, 1) := by decide +kernel
theorem d_L_law_305 : decode i_L_law.2.1 305 = .ok (.iconst 2, 1) := by decide +kernel
theorem d_L_law_306 : decode i_L_law.2.1 306 = .ok (.iadd, 1) := by decide +kernel
theorem d_L_law_307 : decode i_L_law.2.1 307 = .ok (.iaload, 1) := by decide +kernel
theorem d_L_law_308 : decode i_L_law.2.1 308 = .ok (.invokevirtual 39, 3) := by decide +kernel
theorem d_L_law_311 : decode i_L_law.2.1 311 = .ok (.if_icmp .eq 748, 3) := by decide +kernel
theorem d_L_law_314 : decode i_L_law.2.1 314 = .ok (.iconst 0, 1) := by decide +kernel
theorem d_L_law_315 : decode i_L_law.2.1 315 = .ok (.ireturn, 1) := by decide +kernel
theorem d_L_law_316 : decode i_L_law.2.1 316 = .ok (.aload_n 1, 1) := by decide +kernel
theorem d_L_law_317 : decode i_L_law.2.1 317 = .ok (.aload_n 0, 1) := by decide +kernel
theorem d_L_law_318 : decode i_L_law.2.1 318 = .ok (.iload_n 3, 1) := by decide +kernel
theorem d_L_law_319 : decode i_L_law.2.1 319 = .ok (.iconst 1, 1) := by decide +kernel
theorem d_L_law_320 : decode i_L_law.2.1 320 = .ok (.iadd, 1) := by decide +kernel
theorem d_L_law_321 : decode i_L_law.2.1 321 = .ok (.iaload, 1) := by decide +kernel
theorem d_L_law_322 : decode i_L_law.2.1 322 = .ok (.aload_n 0, 1) := by decide +kernel
theorem d_L_law_323 : decode i_L_law.2.1 323 = .ok (.iload_n 3, 1) := by decide +kernel
theorem d_L_law_324 : decode i_L_law.2.1 324 = .ok (.iconst 2, 1) := by decide +kernel
theorem d_L_law_325 : decode i_L_law.2.1 325 = .ok (.iadd, 1) := by decide +kernel
theorem d_L_law_326 : decode i_L_law.2.1 326 = .ok (.iaload, 1) := by decide +kernel
theorem d_L_law_327 : decode i_L_law.2.1 327 = .ok (.invokevirtual 40, 3) := by decide +kernel
theorem d_L_law_330 : decode i_L_law.2.1 330 = .ok (.aload_n 2, 1) := by decide +kernel
theorem d_L_law_331 : decode i_L_law.2.1 331 = .ok (.aload_n 0, 1) := by decide +kernel
theorem d_L_law_332 : decode i_L_law.2.1 332 = .ok (.iload_n 3, 1) := by decide +kernel
theorem d_L_law_333 : decode i_L_law.2.1 333 = .ok (.iconst 1, 1) := by decide +kernel
theorem d_L_law_334 : decode i_L_law.2.1 334 = .ok (.iadd, 1) := by decide +kernel
theorem d_L_law_335 : decode i_L_law.2.1 335 = .ok (.iaload, 1) := by decide +kernel
theorem d_L_law_336 : decode i_L_law.2.1 336 = .ok (.aload_n 0, 1) := by decide +kernel
theorem d_L_law_337 : decode i_L_law.2.1 337 = .ok (.iload_n 3, 1) := by decide +kernel
theorem d_L_law_338 : decode i_L_law.2.1 338 = .ok (.iconst 2, 1) := by decide +kernel
theorem d_L_law_339 : decode i_L_law.2.1 339 = .ok (.iadd, 1) := by decide +kernel
theorem d_L_law_340 : decode i_L_law.2.1 340 = .ok (.iaload, 1) := by decide +kernel
theorem d_L_law_341 : decode i_L_law.2.1 341 = .ok (.invokevirtual 43, 3) := by decide +kernel
theorem d_L_law_344 : decode i_L_law.2.1 344 = .ok (.if_icmp .eq 715, 3) := by decide +kernel
theorem d_L_law_347 : decode i_L_law.2.1 347 = .ok (.iconst 0, 1) := by decide +kernel
theorem d_L_law_348 : decode i_L_law.2.1 348 = .ok (.ireturn, 1) := by decide +kernel
theorem d_L_law_349 : decode i_L_law.2.1 349 = .ok (.aload_n 1, 1) := by decide +kernel
theorem d_L_law_350 : decode i_L_law.2.1 350 = .ok (.aload_n 0, 1) := by decide +kernel
theorem d_L_law_351 : decode i_L_law.2.1 351 = .ok (.iload_n 3, 1) := by decide +kernel
theorem d_L_law_352 : decode i_L_law.2.1 352 = .ok (.iconst 1, 1) := by decide +kernel
theorem d_L_law_353 : decode i_L_law.2.1 353 = .ok (.iadd, 1) := by decide +kernel
theorem d_L_law_354 : decode i_L_law.2.1 354 = .ok (.iaload, 1) := by decide +kernel
theorem d_L_law_355 : decode i_L_law.2.1 355 = .ok (.invokevirtual 44, 3) := by decide +kernel
theorem d_L_law_358 : decode i_L_law.2.1 358 = .ok (.aload_n 2, 1) := by decide +kernel
theorem d_L_law_359 : decode i_L_law.2.1 359 = .ok (.aload_n 0, 1) := by decide +kernel
theorem d_L_law_360 : decode i_L_law.2.1 360 = .ok (.iload_n 3, 1) := by decide +kernel
theorem d_L_law_361 : decode i_L_law.2.1 361 = .ok (.iconst 1, 1) := by decide +kernel
theorem d_L_law_362 : decode i_L_law.2.1 362 = .ok (.iadd, 1) := by decide +kernel
theorem d_L_law_363 : decode i_L_law.2.1 363 = .ok (.iaload, 1) := by decide +kernel
theorem d_L_law_364 : decode i_L_law.2.1 364 = .ok (.invokevirtual 47, 3) := by decide +kernel
theorem d_L_law_367 : decode i_L_law.2.1 367 = .ok (.if_icmp .eq 692, 3) := by decide +kernel
theorem d_L_law_370 : decode i_L_law.2.1 370 = .ok (.iconst 0, 1) := by decide +kernel
theorem d_L_law_371 : decode i_L_law.2.1 371 = .ok (.ireturn, 1) := by decide +kernel
theorem d_L_law_372 : decode i_L_law.2.1 372 = .ok (.aload_n 1, 1) := by decide +kernel
theorem d_L_law_373 : decode i_L_law.2.1 373 = .ok (.invokevirtual 48, 3) := by decide +kernel
theorem d_L_law_376 : decode i_L_law.2.1 376 = .ok (.aload_n 2, 1) := by decide +kernel
theorem d_L_law_377 : decode i_L_law.2.1 377 = .ok (.invokevirtual 51, 3) := by decide +kernel
theorem d_L_law_380 : decode i_L_law.2.1 380 = .ok (.if_icmp .eq 679, 3) := by decide +kernel
theorem d_L_law_383 : decode i_L_law.2.1 383 = .ok (.iconst 0, 1) := by decide +kernel
theorem d_L_law_384 : decode i_L_law.2.1 384 = .ok (.ireturn, 1) := by decide +kernel
theorem d_L_law_385 : decode i_L_law.2.1 385 = .ok (.aload_n 1, 1) := by decide +kernel
theorem d_L_law_386 : decode i_L_law.2.1 386 = .ok (.aload_n 0, 1) := by decide +kernel
theorem d_L_law_387 : decode i_L_law.2.1 387 = .ok (.iload_n 3, 1) := by decide +kernel
theorem d_L_law_388 : decode i_L_law.2.1 388 = .ok (.iconst 1, 1) := by decide +kernel
theorem d_L_law_389 : decode i_L_law.2.1 389 = .ok (.iadd, 1) := by decide +kernel
theorem d_L_law_390 : decode i_L_law.2.1 390 = .ok (.iaload, 1) := by decide +kernel
theorem d_L_law_391 : decode i_L_law.2.1 391 = .ok (.invokevirtual 52, 3) := by decide +kernel
theorem d_L_law_394 : decode i_L_law.2.1 394 = .ok (.aload_n 2, 1) := by decide +kernel
theorem d_L_law_395 : decode i_L_law.2.1 395 = .ok (.aload_n 0, 1) := by decide +kernel
theorem d_L_law_396 : decode i_L_law.2.1 396 = .ok (.iload_n 3, 1) := by decide +kernel
theorem d_L_law_397 : decode i_L_law.2.1 397 = .ok (.iconst 1, 1) := by decide +kernel
theorem d_L_law_398 : decode i_L_law.2.1 398 = .ok (.iadd, 1) := by decide +kernel
theorem d_L_law_399 : decode i_L_law.2.1 399 = .ok (.iaload, 1) := by decide +kernel
theorem d_L_law_400 : decode i_L_law.2.1 400 = .ok (.invokevirtual 55, 3) := by decide +kernel
theorem d_L_law_403 : decode i_L_law.2.1 403 = .ok (.if_icmp .eq 656, 3) := by decide +kernel
theorem d_L_law_406 : decode i_L_law.2.1 406 = .ok (.iconst 0, 1) := by decide +kernel
theorem d_L_law_407 : decode i_L_law.2.1 407 = .ok (.ireturn, 1) := by decide +kernel
theorem d_L_law_408 : decode i_L_law.2.1 408 = .ok (.aload_n 1, 1) := by decide +kernel
theorem d_L_law_409 : decode i_L_law.2.1 409 = .ok (.aload_n 0, 1) := by decide +kernel
theorem d_L_law_410 : decode i_L_law.2.1 410 = .ok (.iload_n 3, 1) := by decide +kernel
theorem d_L_law_411 : decode i_L_law.2.1 411 = .ok (.iconst 1, 1) := by decide +kernel
theorem d_L_law_412 : decode i_L_law.2.1 412 = .ok (.iadd, 1) := by decide +kernel
theorem d_L_law_413 : decode i_L_law.2.1 413 = .ok (.iaload, 1) := by decide +kernel
theorem d_L_law_414 : decode i_L_law.2.1 414 = .ok (.invokevirtual 56, 3) := by decide +kernel
theorem d_L_law_417 : decode i_L_law.2.1 417 = .ok (.aload_n 2, 1) := by decide +kernel
theorem d_L_law_418 : decode i_L_law.2.1 418 = .ok (.aload_n 0, 1) := by decide +kernel
theorem d_L_law_419 : decode i_L_law.2.1 419 = .ok (.iload_n 3, 1) := by decide +kernel
theorem d_L_law_420 : decode i_L_law.2.1 420 = .ok (.iconst 1, 1) := by decide +kernel
theorem d_L_law_421 : decode i_L_law.2.1 421 = .ok (.iadd, 1) := by decide +kernel
theorem d_L_law_422 : decode i_L_law.2.1 422 = .ok (.iaload, 1) := by decide +kernel
theorem d_L_law_423 : decode i_L_law.2.1 423 = .ok (.invokevirtual 59, 3) := by decide +kernel
theorem d_L_law_426 : decode i_L_law.2.1 426 = .ok (.if_icmp .eq 633, 3) := by decide +kernel
theorem d_L_law_429 : decode i_L_law.2.1 429 = .ok (.iconst 0, 1) := by decide +kernel
theorem d_L_law_430 : decode i_L_law.2.1 430 = .ok (.ireturn, 1) := by decide +kernel
theorem d_L_law_431 : decode i_L_law.2.1 431 = .ok (.aload_n 1, 1) := by decide +kernel
theorem d_L_law_432 : decode i_L_law.2.1 432 = .ok (.aload_n 0, 1) := by decide +kernel
theorem d_L_law_433 : decode i_L_law.2.1 433 = .ok (.iload_n 3, 1) := by decide +kernel
theorem d_L_law_434 : decode i_L_law.2.1 434 = .ok (.iconst 1, 1) := by decide +kernel
theorem d_L_law_435 : decode i_L_law.2.1 435 = .ok (.iadd, 1) := by decide +kernel
theorem d_L_law_436 : decode i_L_law.2.1 436 = .ok (.iaload, 1) := by decide +kernel
theorem d_L_law_437 : decode i_L_law.2.1 437 = .ok (.aload_n 0, 1) := by decide +kernel
theorem d_L_law_438 : decode i_L_law.2.1 438 = .ok (.iload_n 3, 1) := by decide +kernel
theorem d_L_law_439 : decode i_L_law.2.1 439 = .ok (.iconst 2, 1) := by decide +kernel
theorem d_L_law_440 : decode i_L_law.2.1 440 = .ok (.iadd, 1) := by decide +kernel
theorem d_L_law_441 : decode i_L_law.2.1 441 = .ok (.iaload, 1) := by decide +kernel
theorem d_L_law_442 : decode i_L_law.2.1 442 = .ok (.invokevirtual 60, 3) := by decide +kernel
theorem d_L_law_445 : decode i_L_law.2.1 445 = .ok (.aload_n 2, 1) := by decide +kernel
theorem d_L_law_446 : decode i_L_law.2.1 446 = .ok (.aload_n 0, 1) := by decide +kernel
theorem d_L_law_447 : decode i_L_law.2.1 447 = .ok (.iload_n 3, 1) := by decide +kernel
theorem d_L_law_448 : decode i_L_law.2.1 448 = .ok (.iconst 1, 1) := by decide +kernel
theorem d_L_law_449 : decode i_L_law.2.1 449 = .ok (.iadd, 1) := by decide +kernel
theorem d_L_law_450 : decode i_L_law.2.1 450 = .ok (.iaload, 1) := by decide +kernel
theorem d_L_law_451 : decode i_L_law.2.1 451 = .ok (.aload_n 0, 1) := by decide +kernel
theorem d_L_law_452 : decode i_L_law.2.1 452 = .ok (.iload_n 3, 1) := by decide +kernel
theorem d_L_law_453 : decode i_L_law.2.1 453 = .ok (.iconst 2, 1) := by decide +kernel
theorem d_L_law_454 : decode i_L_law.2.1 454 = .ok (.iadd, 1) := by decide +kernel
theorem d_L_law_455 : decode i_L_law.2.1 455 = .ok (.iaload, 1) := by decide +kernel
theorem d_L_law_456 : decode i_L_law.2.1 456 = .ok (.invokevirtual 63, 3) := by decide +kernel
theorem d_L_law_459 : decode i_L_law.2.1 459 = .ok (.if_icmp .eq 600, 3) := by decide +kernel
theorem d_L_law_462 : decode i_L_law.2.1 462 = .ok (.iconst 0, 1) := by decide +kernel
theorem d_L_law_463 : decode i_L_law.2.1 463 = .ok (.ireturn, 1) := by decide +kernel
theorem d_L_law_464 : decode i_L_law.2.1 464 = .ok (.aload_n 1, 1) := by decide +kernel
theorem d_L_law_465 : decode i_L_law.2.1 465 = .ok (.aload_n 0, 1) := by decide +kernel
theorem d_L_law_466 : decode i_L_law.2.1 466 = .ok (.iload_n 3, 1) := by decide +kernel
theorem d_L_law_467 : decode i_L_law.2.1 467 = .ok (.iconst 1, 1) := by decide +kernel
theorem d_L_law_468 : decode i_L_law.2.1 468 = .ok (.iadd, 1) := by decide +kernel
theorem d_L_law_469 : decode i_L_law.2.1 469 = .ok (.iaload, 1) := by decide +kernel
theorem d_L_law_470 : decode i_L_law.2.1 470 = .ok (.invokevirtual 64, 3) := by decide +kernel
theorem d_L_law_473 : decode i_L_law.2.1 473 = .ok (.aload_n 2, 1) := by decide +kernel
theorem d_L_law_474 : decode i_L_law.2.1 474 = .ok (.aload_n 0, 1) := by decide +kernel
theorem d_L_law_475 : decode i_L_law.2.1 475 = .ok (.iload_n 3, 1) := by decide +kernel
theorem d_L_law_476 : decode i_L_law.2.1 476 = .ok (.iconst 1, 1) := by decide +kernel
theorem d_L_law_477 : decode i_L_law.2.1 477 = .ok (.iadd, 1) := by decide +kernel
theorem d_L_law_478 : decode i_L_law.2.1 478 = .ok (.iaload, 1) := by decide +kernel
theorem d_L_law_479 : decode i_L_law.2.1 479 = .ok (.invokevirtual 67, 3) := by decide +kernel
theorem d_L_law_482 : decode i_L_law.2.1 482 = .ok (.if_icmp .eq 577, 3) := by decide +kernel
theorem d_L_law_485 : decode i_L_law.2.1 485 = .ok (.iconst 0, 1) := by decide +kernel
theorem d_L_law_486 : decode i_L_law.2.1 486 = .ok (.ireturn, 1) := by decide +kernel
theorem d_L_law_487 : decode i_L_law.2.1 487 = .ok (.aload_n 1, 1) := by decide +kernel
theorem d_L_law_488 : decode i_L_law.2.1 488 = .ok (.invokevirtual 68, 3) := by decide +kernel
theorem d_L_law_491 : decode i_L_law.2.1 491 = .ok (.aload_n 2, 1) := by decide +kernel
theorem d_L_law_492 : decode i_L_law.2.1 492 = .ok (.invokevirtual 71, 3) := by decide +kernel
theorem d_L_law_495 : decode i_L_law.2.1 495 = .ok (.if_icmp .eq 564, 3) := by decide +kernel
theorem d_L_law_498 : decode i_L_law.2.1 498 = .ok (.iconst 0, 1) := by decide +kernel
theorem d_L_law_499 : decode i_L_law.2.1 499 = .ok (.ireturn, 1) := by decide +kernel
theorem d_L_law_500 : decode i_L_law.2.1 500 = .ok (.aload_n 1, 1) := by decide +kernel
theorem d_L_law_501 : decode i_L_law.2.1 501 = .ok (.aload_n 0, 1) := by decide +kernel
theorem d_L_law_502 : decode i_L_law.2.1 502 = .ok (.iload_n 3, 1) := by decide +kernel
theorem d_L_law_503 : decode i_L_law.2.1 503 = .ok (.iconst 1, 1) := by decide +kernel
theorem d_L_law_504 : decode i_L_law.2.1 504 = .ok (.iadd, 1) := by decide +kernel
theorem d_L_law_505 : decode i_L_law.2.1 505 = .ok (.iaload, 1) := by decide +kernel
theorem d_L_law_506 : decode i_L_law.2.1 506 = .ok (.invokevirtual 72, 3) := by decide +kernel
theorem d_L_law_509 : decode i_L_law.2.1 509 = .ok (.aload_n 2, 1) := by decide +kernel
theorem d_L_law_510 : decode i_L_law.2.1 510 = .ok (.aload_n 0, 1) := by decide +kernel
theorem d_L_law_511 : decode i_L_law.2.1 511 = .ok (.iload_n 3, 1) := by decide +kernel
theorem d_L_law_512 : decode i_L_law.2.1 512 = .ok (.iconst 1, 1) := by decide +kernel
theorem d_L_law_513 : decode i_L_law.2.1 513 = .ok (.iadd, 1) := by decide +kernel
theorem d_L_law_514 : decode i_L_law.2.1 514 = .ok (.iaload, 1) := by decide +kernel
theorem d_L_law_515 : decode i_L_law.2.1 515 = .ok (.invokevirtual 75, 3) := by decide +kernel
theorem d_L_law_518 : decode i_L_law.2.1 518 = .ok (.if_icmp .eq 541, 3) := by decide +kernel
theorem d_L_law_521 : decode i_L_law.2.1 521 = .ok (.iconst 0, 1) := by decide +kernel
theorem d_L_law_522 : decode i_L_law.2.1 522 = .ok (.ireturn, 1) := by decide +kernel
theorem d_L_law_523 : decode i_L_law.2.1 523 = .ok (.aload_n 1, 1) := by decide +kernel
theorem d_L_law_524 : decode i_L_law.2.1 524 = .ok (.aload_n 0, 1) := by decide +kernel
theorem d_L_law_525 : decode i_L_law.2.1 525 = .ok (.iload_n 3, 1) := by decide +kernel
theorem d_L_law_526 : decode i_L_law.2.1 526 = .ok (.iconst 1, 1) := by decide +kernel
theorem d_L_law_527 : decode i_L_law.2.1 527 = .ok (.iadd, 1) := by decide +kernel
theorem d_L_law_528 : decode i_L_law.2.1 528 = .ok (.iaload, 1) := by decide +kernel
theorem d_L_law_529 : decode i_L_law.2.1 529 = .ok (.invokevirtual 76, 3) := by decide +kernel
theorem d_L_law_532 : decode i_L_law.2.1 532 = .ok (.aload_n 2, 1) := by decide +kernel
theorem d_L_law_533 : decode i_L_law.2.1 533 = .ok (.aload_n 0, 1) := by decide +kernel
theorem d_L_law_534 : decode i_L_law.2.1 534 = .ok (.iload_n 3, 1) := by decide +kernel
theorem d_L_law_535 : decode i_L_law.2.1 535 = .ok (.iconst 1, 1) := by decide +kernel
theorem d_L_law_536 : decode i_L_law.2.1 536 = .ok (.iadd, 1) := by decide +kernel
theorem d_L_law_537 : decode i_L_law.2.1 537 = .ok (.iaload, 1) := by decide +kernel
theorem d_L_law_538 : decode i_L_law.2.1 538 = .ok (.invokevirtual 79, 3) := by decide +kernel
theorem d_L_law_541 : decode i_L_law.2.1 541 = .ok (.if_icmp .eq 518, 3) := by decide +kernel
theorem d_L_law_544 : decode i_L_law.2.1 544 = .ok (.iconst 0, 1) := by decide +kernel
theorem d_L_law_545 : decode i_L_law.2.1 545 = .ok (.ireturn, 1) := by decide +kernel
theorem d_L_law_546 : decode i_L_law.2.1 546 = .ok (.aload_n 1, 1) := by decide +kernel
theorem d_L_law_547 : decode i_L_law.2.1 547 = .ok (.aload_n 0, 1) := by decide +kernel
theorem d_L_law_548 : decode i_L_law.2.1 548 = .ok (.iload_n 3, 1) := by decide +kernel
theorem d_L_law_549 : decode i_L_law.2.1 549 = .ok (.iconst 1, 1) := by decide +kernel
theorem d_L_law_550 : decode i_L_law.2.1 550 = .ok (.iadd, 1) := by decide +kernel
theorem d_L_law_551 : decode i_L_law.2.1 551 = .ok (.iaload, 1) := by decide +kernel
theorem d_L_law_552 : decode i_L_law.2.1 552 = .ok (.aload_n 0, 1) := by decide +kernel
theorem d_L_law_553 : decode i_L_law.2.1 553 = .ok (.iload_n 3, 1) := by decide +kernel
theorem d_L_law_554 : decode i_L_law.2.1 554 = .ok (.iconst 2, 1) := by decide +kernel
theorem d_L_law_555 : decode i_L_law.2.1 555 = .ok (.iadd, 1) := by decide +kernel
theorem d_L_law_556 : decode i_L_law.2.1 556 = .ok (.iaload, 1) := by decide +kernel
theorem d_L_law_557 : decode i_L_law.2.1 557 = .ok (.invokevirtual 80, 3) := by decide +kernel
theorem d_L_law_560 : decode i_L_law.2.1 560 = .ok (.aload_n 2, 1) := by decide +kernel
theorem d_L_law_561 : decode i_L_law.2.1 561 = .ok (.aload_n 0, 1) := by decide +kernel
theorem d_L_law_562 : decode i_L_law.2.1 562 = .ok (.iload_n 3, 1) := by decide +kernel
theorem d_L_law_563 : decode i_L_law.2.1 563 = .ok (.iconst 1, 1) := by decide +kernel
theorem d_L_law_564 : decode i_L_law.2.1 564 = .ok (.iadd, 1) := by decide +kernel
theorem d_L_law_565 : decode i_L_law.2.1 565 = .ok (.iaload, 1) := by decide +kernel
theorem d_L_law_566 : decode i_L_law.2.1 566 = .ok (.aload_n 0, 1) := by decide +kernel
theorem d_L_law_567 : decode i_L_law.2.1 567 = .ok (.iload_n 3, 1) := by decide +kernel
theorem d_L_law_568 : decode i_L_law.2.1 568 = .ok (.iconst 2, 1) := by decide +kernel
theorem d_L_law_569 : decode i_L_law.2.1 569 = .ok (.iadd, 1) := by decide +kernel
theorem d_L_law_570 : decode i_L_law.2.1 570 = .ok (.iaload, 1) := by decide +kernel
theorem d_L_law_571 : decode i_L_law.2.1 571 = .ok (.invokevirtual 83, 3) := by decide +kernel
theorem d_L_law_574 : decode i_L_law.2.1 574 = .ok (.if_icmp .eq 485, 3) := by decide +kernel
theorem d_L_law_577 : decode i_L_law.2.1 577 = .ok (.iconst 0, 1) := by decide +kernel
theorem d_L_law_578 : decode i_L_law.2.1 578 = .ok (.ireturn, 1) := by decide +kernel
theorem d_L_law_579 : decode i_L_law.2.1 579 = .ok (.aload_n 1, 1) := by decide +kernel
theorem d_L_law_580 : decode i_L_law.2.1 580 = .ok (.aload_n 0, 1) := by decide +kernel
theorem d_L_law_581 : decode i_L_law.2.1 581 = .ok (.iload_n 3, 1) := by decide +kernel
theorem d_L_law_582 : decode i_L_law.2.1 582 = .ok (.iconst 1, 1) := by decide +kernel
theorem d_L_law_583 : decode i_L_law.2.1 583 = .ok (.iadd, 1) := by decide +kernel
theorem d_L_law_584 : decode i_L_law.2.1 584 = .ok (.iaload, 1) := by decide +kernel
theorem d_L_law_585 : decode i_L_law.2.1 585 = .ok (.aload_n 0, 1) := by decide +kernel
theorem d_L_law_586 : decode i_L_law.2.1 586 = .ok (.iload_n 3, 1) := by decide +kernel
theorem d_L_law_587 : decode i_L_law.2.1 587 = .ok (.iconst 2, 1) := by decide +kernel
theorem d_L_law_588 : decode i_L_law.2.1 588 = .ok (.iadd, 1) := by decide +kernel
theorem d_L_law_589 : decode i_L_law.2.1 589 = .ok (.iaload, 1) := by decide +kernel
theorem d_L_law_590 : decode i_L_law.2.1 590 = .ok (.aload_n 0, 1) := by decide +kernel
theorem d_L_law_591 : decode i_L_law.2.1 591 = .ok (.iload_n 3, 1) := by decide +kernel
theorem d_L_law_592 : decode i_L_law.2.1 592 = .ok (.iconst 3, 1) := by decide +kernel
theorem d_L_law_593 : decode i_L_law.2.1 593 = .ok (.iadd, 1) := by decide +kernel
theorem d_L_law_594 : decode i_L_law.2.1 594 = .ok (.iaload, 1) := by decide +kernel
theorem d_L_law_595 : decode i_L_law.2.1 595 = .ok (.invokevirtual 84, 3) := by decide +kernel
theorem d_L_law_598 : decode i_L_law.2.1 598 = .ok (.aload_n 2, 1) := by decide +kernel
theorem d_L_law_599 : decode i_L_law.2.1 599 = .ok (.aload_n 0, 1) := by decide +kernel
theorem d_L_law_600 : decode i_L_law.2.1 600 = .ok (.iload_n 3, 1) := by decide +kernel
theorem d_L_law_601 : decode i_L_law.2.1 601 = .ok (.iconst 1, 1) := by decide +kernel
theorem d_L_law_602 : decode i_L_law.2.1 602 = .ok (.iadd, 1) := by decide +kernel
theorem d_L_law_603 : decode i_L_law.2.1 603 = .ok (.iaload, 1) := by decide +kernel
theorem d_L_law_604 : decode i_L_law.2.1 604 = .ok (.aload_n 0, 1) := by decide +kernel
theorem d_L_law_605 : decode i_L_law.2.1 605 = .ok (.iload_n 3, 1) := by decide +kernel
theorem d_L_law_606 : decode i_L_law.2.1 606 = .ok (.iconst 2, 1) := by decide +kernel
theorem d_L_law_607 : decode i_L_law.2.1 607 = .ok (.iadd, 1) := by decide +kernel
theorem d_L_law_608 : decode i_L_law.2.1 608 = .ok (.iaload, 1) := by decide +kernel
theorem d_L_law_609 : decode i_L_law.2.1 609 = .ok (.aload_n 0, 1) := by decide +kernel
theorem d_L_law_610 : decode i_L_law.2.1 610 = .ok (.iload_n 3, 1) := by decide +kernel
theorem d_L_law_611 : decode i_L_law.2.1 611 = .ok (.iconst 3, 1) := by decide +kernel
theorem d_L_law_612 : decode i_L_law.2.1 612 = .ok (.iadd, 1) := by decide +kernel
theorem d_L_law_613 : decode i_L_law.2.1 613 = .ok (.iaload, 1) := by decide +kernel
theorem d_L_law_614 : decode i_L_law.2.1 614 = .ok (.invokevirtual 88, 3) := by decide +kernel
theorem d_L_law_617 : decode i_L_law.2.1 617 = .ok (.if_icmp .eq 442, 3) := by decide +kernel
theorem d_L_law_620 : decode i_L_law.2.1 620 = .ok (.iconst 0, 1) := by decide +kernel
theorem d_L_law_621 : decode i_L_law.2.1 621 = .ok (.ireturn, 1) := by decide +kernel
theorem d_L_law_622 : decode i_L_law.2.1 622 = .ok (.aload_n 1, 1) := by decide +kernel
theorem d_L_law_623 : decode i_L_law.2.1 623 = .ok (.aload_n 0, 1) := by decide +kernel
theorem d_L_law_624 : decode i_L_law.2.1 624 = .ok (.iload_n 3, 1) := by decide +kernel
theorem d_L_law_625 : decode i_L_law.2.1 625 = .ok (.iconst 1, 1) := by decide +kernel
theorem d_L_law_626 : decode i_L_law.2.1 626 = .ok (.iadd, 1) := by decide +kernel
theorem d_L_law_627 : decode i_L_law.2.1 627 = .ok (.iaload, 1) := by decide +kernel
theorem d_L_law_628 : decode i_L_law.2.1 628 = .ok (.aload_n 0, 1) := by decide +kernel
theorem d_L_law_629 : decode i_L_law.2.1 629 = .ok (.iload_n 3, 1) := by decide +kernel
theorem d_L_law_630 : decode i_L_law.2.1 630 = .ok (.iconst 2, 1) := by decide +kernel
theorem d_L_law_631 : decode i_L_law.2.1 631 = .ok (.iadd, 1) := by decide +kernel
theorem d_L_law_632 : decode i_L_law.2.1 632 = .ok (.iaload, 1) := by decide +kernel
theorem d_L_law_633 : decode i_L_law.2.1 633 = .ok (.aload_n 0, 1) := by decide +kernel
theorem d_L_law_634 : decode i_L_law.2.1 634 = .ok (.iload_n 3, 1) := by decide +kernel
theorem d_L_law_635 : decode i_L_law.2.1 635 = .ok (.iconst 3, 1) := by decide +kernel
theorem d_L_law_636 : decode i_L_law.2.1 636 = .ok (.iadd, 1) := by decide +kernel
theorem d_L_law_637 : decode i_L_law.2.1 637 = .ok (.iaload, 1) := by decide +kernel
theorem d_L_law_638 : decode i_L_law.2.1 638 = .ok (.invokevirtual 89, 3) := by decide +kernel
theorem d_L_law_641 : decode i_L_law.2.1 641 = .ok (.aload_n 2, 1) := by decide +kernel
theorem d_L_law_642 : decode i_L_law.2.1 642 = .ok (.aload_n 0, 1) := by decide +kernel
theorem d_L_law_643 : decode i_L_law.2.1 643 = .ok (.iload_n 3, 1) := by decide +kernel
theorem d_L_law_644 : decode i_L_law.2.1 644 = .ok (.iconst 1, 1) := by decide +kernel
theorem d_L_law_645 : decode i_L_law.2.1 645 = .ok (.iadd, 1) := by decide +kernel
theorem d_L_law_646 : decode i_L_law.2.1 646 = .ok (.iaload, 1) := by decide +kernel
theorem d_L_law_647 : decode i_L_law.2.1 647 = .ok (.aload_n 0, 1) := by decide +kernel
theorem d_L_law_648 : decode i_L_law.2.1 648 = .ok (.iload_n 3, 1) := by decide +kernel
theorem d_L_law_649 : decode i_L_law.2.1 649 = .ok (.iconst 2, 1) := by decide +kernel
theorem d_L_law_650 : decode i_L_law.2.1 650 = .ok (.iadd, 1) := by decide +kernel
theorem d_L_law_651 : decode i_L_law.2.1 651 = .ok (.iaload, 1) := by decide +kernel
theorem d_L_law_652 : decode i_L_law.2.1 652 = .ok (.aload_n 0, 1) := by decide +kernel
theorem d_L_law_653 : decode i_L_law.2.1 653 = .ok (.iload_n 3, 1) := by decide +kernel
theorem d_L_law_654 : decode i_L_law.2.1 654 = .ok (.iconst 3, 1) := by decide +kernel
theorem d_L_law_655 : decode i_L_law.2.1 655 = .ok (.iadd, 1) := by decide +kernel
theorem d_L_law_656 : decode i_L_law.2.1 656 = .ok (.iaload, 1) := by decide +kernel
theorem d_L_law_657 : decode i_L_law.2.1 657 = .ok (.invokevirtual 92, 3) := by decide +kernel
theorem d_L_law_660 : decode i_L_law.2.1 660 = .ok (.if_icmp .eq 399, 3) := by decide +kernel
theorem d_L_law_663 : decode i_L_law.2.1 663 = .ok (.iconst 0, 1) := by decide +kernel
theorem d_L_law_664 : decode i_L_law.2.1 664 = .ok (.ireturn, 1) := by decide +kernel
theorem d_L_law_665 : decode i_L_law.2.1 665 = .ok (.aload_n 1, 1) := by decide +kernel
theorem d_L_law_666 : decode i_L_law.2.1 666 = .ok (.aload_n 0, 1) := by decide +kernel
theorem d_L_law_667 : decode i_L_law.2.1 667 = .ok (.iload_n 3, 1) := by decide +kernel
theorem d_L_law_668 : decode i_L_law.2.1 668 = .ok (.iconst 1, 1) := by decide +kernel
theorem d_L_law_669 : decode i_L_law.2.1 669 = .ok (.iadd, 1) := by decide +kernel
theorem d_L_law_670 : decode i_L_law.2.1 670 = .ok (.iaload, 1) := by decide +kernel
theorem d_L_law_671 : decode i_L_law.2.1 671 = .ok (.aload_n 0, 1) := by decide +kernel
theorem d_L_law_672 : decode i_L_law.2.1 672 = .ok (.iload_n 3, 1) := by decide +kernel
theorem d_L_law_673 : decode i_L_law.2.1 673 = .ok (.iconst 2, 1) := by decide +kernel
theorem d_L_law_674 : decode i_L_law.2.1 674 = .ok (.iadd, 1) := by decide +kernel
theorem d_L_law_675 : decode i_L_law.2.1 675 = .ok (.iaload, 1) := by decide +kernel
theorem d_L_law_676 : decode i_L_law.2.1 676 = .ok (.invokevirtual 93, 3) := by decide +kernel
theorem d_L_law_679 : decode i_L_law.2.1 679 = .ok (.aload_n 2, 1) := by decide +kernel
theorem d_L_law_680 : decode i_L_law.2.1 680 = .ok (.aload_n 0, 1) := by decide +kernel
theorem d_L_law_681 : decode i_L_law.2.1 681 = .ok (.iload_n 3, 1) := by decide +kernel
theorem d_L_law_682 : decode i_L_law.2.1 682 = .ok (.iconst 1, 1) := by decide +kernel
theorem d_L_law_683 : decode i_L_law.2.1 683 = .ok (.iadd, 1) := by decide +kernel
theorem d_L_law_684 : decode i_L_law.2.1 684 = .ok (.iaload, 1) := by decide +kernel
theorem d_L_law_685 : decode i_L_law.2.1 685 = .ok (.aload_n 0, 1) := by decide +kernel
theorem d_L_law_686 : decode i_L_law.2.1 686 = .ok (.iload_n 3, 1) := by decide +kernel
theorem d_L_law_687 : decode i_L_law.2.1 687 = .ok (.iconst 2, 1) := by decide +kernel
theorem d_L_law_688 : decode i_L_law.2.1 688 = .ok (.iadd, 1) := by decide +kernel
theorem d_L_law_689 : decode i_L_law.2.1 689 = .ok (.iaload, 1) := by decide +kernel
theorem d_L_law_690 : decode i_L_law.2.1 690 = .ok (.invokevirtual 96, 3) := by decide +kernel
theorem d_L_law_693 : decode i_L_law.2.1 693 = .ok (.if_icmp .eq 366, 3) := by decide +kernel
theorem d_L_law_696 : decode i_L_law.2.1 696 = .ok (.iconst 0, 1) := by decide +kernel
theorem d_L_law_697 : decode i_L_law.2.1 697 = .ok (.ireturn, 1) := by decide +kernel
theorem d_L_law_698 : decode i_L_law.2.1 698 = .ok (.aload_n 1, 1) := by decide +kernel
theorem d_L_law_699 : decode i_L_law.2.1 699 = .ok (.aload_n 0, 1) := by decide +kernel
theorem d_L_law_700 : decode i_L_law.2.1 700 = .ok (.iload_n 3, 1) := by decide +kernel
theorem d_L_law_701 : decode i_L_law.2.1 701 = .ok (.iconst 1, 1) := by decide +kernel
theorem d_L_law_702 : decode i_L_law.2.1 702 = .ok (.iadd, 1) := by decide +kernel
theorem d_L_law_703 : decode i_L_law.2.1 703 = .ok (.iaload, 1) := by decide +kernel
theorem d_L_law_704 : decode i_L_law.2.1 704 = .ok (.invokevirtual 97, 3) := by decide +kernel
theorem d_L_law_707 : decode i_L_law.2.1 707 = .ok (.aload_n 2, 1) := by decide +kernel
theorem d_L_law_708 : decode i_L_law.2.1 708 = .ok (.aload_n 0, 1) := by decide +kernel
theorem d_L_law_709 : decode i_L_law.2.1 709 = .ok (.iload_n 3, 1) := by decide +kernel
theorem d_L_law_710 : decode i_L_law.2.1 710 = .ok (.iconst 1, 1) := by decide +kernel
theorem d_L_law_711 : decode i_L_law.2.1 711 = .ok (.iadd, 1) := by decide +kernel
theorem d_L_law_712 : decode i_L_law.2.1 712 = .ok (.iaload, 1) := by decide +kernel
theorem d_L_law_713 : decode i_L_law.2.1 713 = .ok (.invokevirtual 100, 3) := by decide +kernel
theorem d_L_law_716 : decode i_L_law.2.1 716 = .ok (.if_icmp .eq 343, 3) := by decide +kernel
theorem d_L_law_719 : decode i_L_law.2.1 719 = .ok (.iconst 0, 1) := by decide +kernel
theorem d_L_law_720 : decode i_L_law.2.1 720 = .ok (.ireturn, 1) := by decide +kernel
theorem d_L_law_721 : decode i_L_law.2.1 721 = .ok (.aload_n 1, 1) := by decide +kernel
theorem d_L_law_722 : decode i_L_law.2.1 722 = .ok (.aload_n 0, 1) := by decide +kernel
theorem d_L_law_723 : decode i_L_law.2.1 723 = .ok (.iload_n 3, 1) := by decide +kernel
theorem d_L_law_724 : decode i_L_law.2.1 724 = .ok (.iconst 1, 1) := by decide +kernel
theorem d_L_law_725 : decode i_L_law.2.1 725 = .ok (.iadd, 1) := by decide +kernel
theorem d_L_law_726 : decode i_L_law.2.1 726 = .ok (.iaload, 1) := by decide +kernel
theorem d_L_law_727 : decode i_L_law.2.1 727 = .ok (.invokevirtual 101, 3) := by decide +kernel
theorem d_L_law_730 : decode i_L_law.2.1 730 = .ok (.aload_n 2, 1) := by decide +kernel
theorem d_L_law_731 : decode i_L_law.2.1 731 = .ok (.aload_n 0, 1) := by decide +kernel
theorem d_L_law_732 : decode i_L_law.2.1 732 = .ok (.iload_n 3, 1) := by decide +kernel
theorem d_L_law_733 : decode i_L_law.2.1 733 = .ok (.iconst 1, 1) := by decide +kernel
theorem d_L_law_734 : decode i_L_law.2.1 734 = .ok (.iadd, 1) := by decide +kernel
theorem d_L_law_735 : decode i_L_law.2.1 735 = .ok (.iaload, 1) := by decide +kernel
theorem d_L_law_736 : decode i_L_law.2.1 736 = .ok (.invokevirtual 104, 3) := by decide +kernel
theorem d_L_law_739 : decode i_L_law.2.1 739 = .ok (.if_icmp .eq 320, 3) := by decide +kernel
theorem d_L_law_742 : decode i_L_law.2.1 742 = .ok (.iconst 0, 1) := by decide +kernel
theorem d_L_law_743 : decode i_L_law.2.1 743 = .ok (.ireturn, 1) := by decide +kernel
theorem d_L_law_744 : decode i_L_law.2.1 744 = .ok (.aload_n 1, 1) := by decide +kernel
theorem d_L_law_745 : decode i_L_law.2.1 745 = .ok (.aload_n 0, 1) := by decide +kernel
theorem d_L_law_746 : decode i_L_law.2.1 746 = .ok (.iload_n 3, 1) := by decide +kernel
theorem d_L_law_747 : decode i_L_law.2.1 747 = .ok (.iconst 1, 1) := by decide +kernel
theorem d_L_law_748 : decode i_L_law.2.1 748 = .ok (.iadd, 1) := by decide +kernel
theorem d_L_law_749 : decode i_L_law.2.1 749 = .ok (.iaload, 1) := by decide +kernel
theorem d_L_law_750 : decode i_L_law.2.1 750 = .ok (.invokevirtual 105, 3) := by decide +kernel
theorem d_L_law_753 : decode i_L_law.2.1 753 = .ok (.aload_n 2, 1) := by decide +kernel
theorem d_L_law_754 : decode i_L_law.2.1 754 = .ok (.aload_n 0, 1) := by decide +kernel
theorem d_L_law_755 : decode i_L_law.2.1 755 = .ok (.iload_n 3, 1) := by decide +kernel
theorem d_L_law_756 : decode i_L_law.2.1 756 = .ok (.iconst 1, 1) := by decide +kernel
theorem d_L_law_757 : decode i_L_law.2.1 757 = .ok (.iadd, 1) := by decide +kernel
theorem d_L_law_758 : decode i_L_law.2.1 758 = .ok (.iaload, 1) := by decide +kernel
theorem d_L_law_759 : decode i_L_law.2.1 759 = .ok (.invokevirtual 108, 3) := by decide +kernel
theorem d_L_law_762 : decode i_L_law.2.1 762 = .ok (.if_icmp .eq 297, 3) := by decide +kernel
theorem d_L_law_765 : decode i_L_law.2.1 765 = .ok (.iconst 0, 1) := by decide +kernel
theorem d_L_law_766 : decode i_L_law.2.1 766 = .ok (.ireturn, 1) := by decide +kernel
theorem d_L_law_767 : decode i_L_law.2.1 767 = .ok (.aload_n 1, 1) := by decide +kernel
theorem d_L_law_768 : decode i_L_law.2.1 768 = .ok (.aload_n 0, 1) := by decide +kernel
theorem d_L_law_769 : decode i_L_law.2.1 769 = .ok (.iload_n 3, 1) := by decide +kernel
theorem d_L_law_770 : decode i_L_law.2.1 770 = .ok (.iconst 1, 1) := by decide +kernel
theorem d_L_law_771 : decode i_L_law.2.1 771 = .ok (.iadd, 1) := by decide +kernel
theorem d_L_law_772 : decode i_L_law.2.1 772 = .ok (.iaload, 1) := by decide +kernel
theorem d_L_law_773 : decode i_L_law.2.1 773 = .ok (.invokevirtual 109, 3) := by decide +kernel
theorem d_L_law_776 : decode i_L_law.2.1 776 = .ok (.aload_n 2, 1) := by decide +kernel
theorem d_L_law_777 : decode i_L_law.2.1 777 = .ok (.aload_n 0, 1) := by decide +kernel
theorem d_L_law_778 : decode i_L_law.2.1 778 = .ok (.iload_n 3, 1) := by decide +kernel
theorem d_L_law_779 : decode i_L_law.2.1 779 = .ok (.iconst 1, 1) := by decide +kernel
theorem d_L_law_780 : decode i_L_law.2.1 780 = .ok (.iadd, 1) := by decide +kernel
theorem d_L_law_781 : decode i_L_law.2.1 781 = .ok (.iaload, 1) := by decide +kernel
theorem d_L_law_782 : decode i_L_law.2.1 782 = .ok (.invokevirtual 112, 3) := by decide +kernel
theorem d_L_law_785 : decode i_L_law.2.1 785 = .ok (.if_icmp .eq 274, 3) := by decide +kernel
theorem d_L_law_788 : decode i_L_law.2.1 788 = .ok (.iconst 0, 1) := by decide +kernel
theorem d_L_law_789 : decode i_L_law.2.1 789 = .ok (.ireturn, 1) := by decide +kernel
theorem d_L_law_790 : decode i_L_law.2.1 790 = .ok (.aload_n 1, 1) := by decide +kernel
theorem d_L_law_791 : decode i_L_law.2.1 791 = .ok (.aload_n 0, 1) := by decide +kernel
theorem d_L_law_792 : decode i_L_law.2.1 792 = .ok (.iload_n 3, 1) := by decide +kernel
theorem d_L_law_793 : decode i_L_law.2.1 793 = .ok (.iconst 1, 1) := by decide +kernel
theorem d_L_law_794 : decode i_L_law.2.1 794 = .ok (.iadd, 1) := by decide +kernel
theorem d_L_law_795 : decode i_L_law.2.1 795 = .ok (.iaload, 1) := by decide +kernel
theorem d_L_law_796 : decode i_L_law.2.1 796 = .ok (.invokevirtual 113, 3) := by decide +kernel
theorem d_L_law_799 : decode i_L_law.2.1 799 = .ok (.aload_n 2, 1) := by decide +kernel
theorem d_L_law_800 : decode i_L_law.2.1 800 = .ok (.aload_n 0, 1) := by decide +kernel
theorem d_L_law_801 : decode i_L_law.2.1 801 = .ok (.iload_n 3, 1) := by decide +kernel
theorem d_L_law_802 : decode i_L_law.2.1 802 = .ok (.iconst 1, 1) := by decide +kernel
theorem d_L_law_803 : decode i_L_law.2.1 803 = .ok (.iadd, 1) := by decide +kernel
theorem d_L_law_804 : decode i_L_law.2.1 804 = .ok (.iaload, 1) := by decide +kernel
theorem d_L_law_805 : decode i_L_law.2.1 805 = .ok (.invokevirtual 116, 3) := by decide +kernel
theorem d_L_law_808 : decode i_L_law.2.1 808 = .ok (.if_icmp .eq 251, 3) := by decide +kernel
theorem d_L_law_811 : decode i_L_law.2.1 811 = .ok (.iconst 0, 1) := by decide +kernel
theorem d_L_law_812 : decode i_L_law.2.1 812 = .ok (.ireturn, 1) := by decide +kernel
theorem d_L_law_813 : decode i_L_law.2.1 813 = .ok (.aload_n 1, 1) := by decide +kernel
theorem d_L_law_814 : decode i_L_law.2.1 814 = .ok (.aload_n 0, 1) := by decide +kernel
theorem d_L_law_815 : decode i_L_law.2.1 815 = .ok (.iload_n 3, 1) := by decide +kernel
theorem d_L_law_816 : decode i_L_law.2.1 816 = .ok (.iconst 1, 1) := by decide +kernel
theorem d_L_law_817 : decode i_L_law.2.1 817 = .ok (.iadd, 1) := by decide +kernel
theorem d_L_law_818 : decode i_L_law.2.1 818 = .ok (.iaload, 1) := by decide +kernel
theorem d_L_law_819 : decode i_L_law.2.1 819 = .ok (.aload_n 0, 1) := by decide +kernel
theorem d_L_law_820 : decode i_L_law.2.1 820 = .ok (.iload_n 3, 1) := by decide +kernel
theorem d_L_law_821 : decode i_L_law.2.1 821 = .ok (.iconst 2, 1) := by decide +kernel
theorem d_L_law_822 : decode i_L_law.2.1 822 = .ok (.iadd, 1) := by decide +kernel
theorem d_L_law_823 : decode i_L_law.2.1 823 = .ok (.iaload, 1) := by decide +kernel
theorem d_L_law_824 : decode i_L_law.2.1 824 = .ok (.invokevirtual 117, 3) := by decide +kernel
theorem d_L_law_827 : decode i_L_law.2.1 827 = .ok (.aload_n 2, 1) := by decide +kernel
theorem d_L_law_828 : decode i_L_law.2.1 828 = .ok (.aload_n 0, 1) := by decide +kernel
theorem d_L_law_829 : decode i_L_law.2.1 829 = .ok (.iload_n 3, 1) := by decide +kernel
theorem d_L_law_830 : decode i_L_law.2.1 830 = .ok (.iconst 1, 1) := by decide +kernel
theorem d_L_law_831 : decode i_L_law.2.1 831 = .ok (.iadd, 1) := by decide +kernel
theorem d_L_law_832 : decode i_L_law.2.1 832 = .ok (.iaload, 1) := by decide +kernel
theorem d_L_law_833 : decode i_L_law.2.1 833 = .ok (.aload_n 0, 1) := by decide +kernel
theorem d_L_law_834 : decode i_L_law.2.1 834 = .ok (.iload_n 3, 1) := by decide +kernel
theorem d_L_law_835 : decode i_L_law.2.1 835 = .ok (.iconst 2, 1) := by decide +kernel
theorem d_L_law_836 : decode i_L_law.2.1 836 = .ok (.iadd, 1) := by decide +kernel
theorem d_L_law_837 : decode i_L_law.2.1 837 = .ok (.iaload, 1) := by decide +kernel
theorem d_L_law_838 : decode i_L_law.2.1 838 = .ok (.invokevirtual 120, 3) := by decide +kernel
theorem d_L_law_841 : decode i_L_law.2.1 841 = .ok (.if_icmp .eq 218, 3) := by decide +kernel
theorem d_L_law_844 : decode i_L_law.2.1 844 = .ok (.iconst 0, 1) := by decide +kernel
theorem d_L_law_845 : decode i_L_law.2.1 845 = .ok (.ireturn, 1) := by decide +kernel
theorem d_L_law_846 : decode i_L_law.2.1 846 = .ok (.aload_n 1, 1) := by decide +kernel
theorem d_L_law_847 : decode i_L_law.2.1 847 = .ok (.aload_n 0, 1) := by decide +kernel
theorem d_L_law_848 : decode i_L_law.2.1 848 = .ok (.iload_n 3, 1) := by decide +kernel
theorem d_L_law_849 : decode i_L_law.2.1 849 = .ok (.iconst 1, 1) := by decide +kernel
theorem d_L_law_850 : decode i_L_law.2.1 850 = .ok (.iadd, 1) := by decide +kernel
theorem d_L_law_851 : decode i_L_law.2.1 851 = .ok (.iaload, 1) := by decide +kernel
theorem d_L_law_852 : decode i_L_law.2.1 852 = .ok (.aload_n 0, 1) := by decide +kernel
theorem d_L_law_853 : decode i_L_law.2.1 853 = .ok (.iload_n 3, 1) := by decide +kernel
theorem d_L_law_854 : decode i_L_law.2.1 854 = .ok (.iconst 2, 1) := by decide +kernel
theorem d_L_law_855 : decode i_L_law.2.1 855 = .ok (.iadd, 1) := by decide +kernel
theorem d_L_law_856 : decode i_L_law.2.1 856 = .ok (.iaload, 1) := by decide +kernel
theorem d_L_law_857 : decode i_L_law.2.1 857 = .ok (.aload_n 0, 1) := by decide +kernel
theorem d_L_law_858 : decode i_L_law.2.1 858 = .ok (.iload_n 3, 1) := by decide +kernel
theorem d_L_law_859 : decode i_L_law.2.1 859 = .ok (.iconst 3, 1) := by decide +kernel
theorem d_L_law_860 : decode i_L_law.2.1 860 = .ok (.iadd, 1) := by decide +kernel
theorem d_L_law_861 : decode i_L_law.2.1 861 = .ok (.iaload, 1) := by decide +kernel
theorem d_L_law_862 : decode i_L_law.2.1 862 = .ok (.ifCond .eq 7, 3) := by decide +kernel
theorem d_L_law_865 : decode i_L_law.2.1 865 = .ok (.iconst 1, 1) := by decide +kernel
theorem d_L_law_866 : decode i_L_law.2.1 866 = .ok (.goto 4, 3) := by decide +kernel
theorem d_L_law_869 : decode i_L_law.2.1 869 = .ok (.iconst 0, 1) := by decide +kernel
theorem d_L_law_870 : decode i_L_law.2.1 870 = .ok (.invokevirtual 121, 3) := by decide +kernel
theorem d_L_law_873 : decode i_L_law.2.1 873 = .ok (.aload_n 2, 1) := by decide +kernel
theorem d_L_law_874 : decode i_L_law.2.1 874 = .ok (.aload_n 0, 1) := by decide +kernel
theorem d_L_law_875 : decode i_L_law.2.1 875 = .ok (.iload_n 3, 1) := by decide +kernel
theorem d_L_law_876 : decode i_L_law.2.1 876 = .ok (.iconst 1, 1) := by decide +kernel
theorem d_L_law_877 : decode i_L_law.2.1 877 = .ok (.iadd, 1) := by decide +kernel
theorem d_L_law_878 : decode i_L_law.2.1 878 = .ok (.iaload, 1) := by decide +kernel
theorem d_L_law_879 : decode i_L_law.2.1 879 = .ok (.aload_n 0, 1) := by decide +kernel
theorem d_L_law_880 : decode i_L_law.2.1 880 = .ok (.iload_n 3, 1) := by decide +kernel
theorem d_L_law_881 : decode i_L_law.2.1 881 = .ok (.iconst 2, 1) := by decide +kernel
theorem d_L_law_882 : decode i_L_law.2.1 882 = .ok (.iadd, 1) := by decide +kernel
theorem d_L_law_883 : decode i_L_law.2.1 883 = .ok (.iaload, 1) := by decide +kernel
theorem d_L_law_884 : decode i_L_law.2.1 884 = .ok (.aload_n 0, 1) := by decide +kernel
theorem d_L_law_885 : decode i_L_law.2.1 885 = .ok (.iload_n 3, 1) := by decide +kernel
theorem d_L_law_886 : decode i_L_law.2.1 886 = .ok (.iconst 3, 1) := by decide +kernel
theorem d_L_law_887 : decode i_L_law.2.1 887 = .ok (.iadd, 1) := by decide +kernel
theorem d_L_law_888 : decode i_L_law.2.1 888 = .ok (.iaload, 1) := by decide +kernel
theorem d_L_law_889 : decode i_L_law.2.1 889 = .ok (.ifCond .eq 7, 3) := by decide +kernel
theorem d_L_law_892 : decode i_L_law.2.1 892 = .ok (.iconst 1, 1) := by decide +kernel
theorem d_L_law_893 : decode i_L_law.2.1 893 = .ok (.goto 4, 3) := by decide +kernel
theorem d_L_law_896 : decode i_L_law.2.1 896 = .ok (.iconst 0, 1) := by decide +kernel
theorem d_L_law_897 : decode i_L_law.2.1 897 = .ok (.invokevirtual 125, 3) := by decide +kernel
theorem d_L_law_900 : decode i_L_law.2.1 900 = .ok (.if_icmp .eq 159, 3) := by decide +kernel
theorem d_L_law_903 : decode i_L_law.2.1 903 = .ok (.iconst 0, 1) := by decide +kernel
theorem d_L_law_904 : decode i_L_law.2.1 904 = .ok (.ireturn, 1) := by decide +kernel
theorem d_L_law_905 : decode i_L_law.2.1 905 = .ok (.aload_n 1, 1) := by decide +kernel
theorem d_L_law_906 : decode i_L_law.2.1 906 = .ok (.invokevirtual 126, 3) := by decide +kernel
theorem d_L_law_909 : decode i_L_law.2.1 909 = .ok (.aload_n 2, 1) := by decide +kernel
theorem d_L_law_910 : decode i_L_law.2.1 910 = .ok (.invokevirtual 129, 3) := by decide +kernel
theorem d_L_law_913 : decode i_L_law.2.1 913 = .ok (.if_icmp .eq 146, 3) := by decide +kernel
theorem d_L_law_916 : decode i_L_law.2.1 916 = .ok (.iconst 0, 1) := by decide +kernel
theorem d_L_law_917 : decode i_L_law.2.1 917 = .ok (.ireturn, 1) := by decide +kernel
theorem d_L_law_918 : decode i_L_law.2.1 918 = .ok (.aload_n 1, 1) := by decide +kernel
theorem d_L_law_919 : decode i_L_law.2.1 919 = .ok (.invokevirtual 130, 3) := by decide +kernel
theorem d_L_law_922 : decode i_L_law.2.1 922 = .ok (.aload_n 2, 1) := by decide +kernel
theorem d_L_law_923 : decode i_L_law.2.1 923 = .ok (.invokevirtual 133, 3) := by decide +kernel
theorem d_L_law_926 : decode i_L_law.2.1 926 = .ok (.if_icmp .eq 133, 3) := by decide +kernel
theorem d_L_law_929 : decode i_L_law.2.1 929 = .ok (.iconst 0, 1) := by decide +kernel
theorem d_L_law_930 : decode i_L_law.2.1 930 = .ok (.ireturn, 1) := by decide +kernel
theorem d_L_law_931 : decode i_L_law.2.1 931 = .ok (.aload_n 1, 1) := by decide +kernel
theorem d_L_law_932 : decode i_L_law.2.1 932 = .ok (.aload_n 0, 1) := by decide +kernel
theorem d_L_law_933 : decode i_L_law.2.1 933 = .ok (.iload_n 3, 1) := by decide +kernel
theorem d_L_law_934 : decode i_L_law.2.1 934 = .ok (.iconst 1, 1) := by decide +kernel
theorem d_L_law_935 : decode i_L_law.2.1 935 = .ok (.iadd, 1) := by decide +kernel
theorem d_L_law_936 : decode i_L_law.2.1 936 = .ok (.iaload, 1) := by decide +kernel
theorem d_L_law_937 : decode i_L_law.2.1 937 = .ok (.aload_n 0, 1) := by decide +kernel
theorem d_L_law_938 : decode i_L_law.2.1 938 = .ok (.iload_n 3, 1) := by decide +kernel
theorem d_L_law_939 : decode i_L_law.2.1 939 = .ok (.iconst 2, 1) := by decide +kernel
theorem d_L_law_940 : decode i_L_law.2.1 940 = .ok (.iadd, 1) := by decide +kernel
theorem d_L_law_941 : decode i_L_law.2.1 941 = .ok (.iaload, 1) := by decide +kernel
theorem d_L_law_942 : decode i_L_law.2.1 942 = .ok (.invokevirtual 134, 3) := by decide +kernel
theorem d_L_law_945 : decode i_L_law.2.1 945 = .ok (.aload_n 2, 1) := by decide +kernel
theorem d_L_law_946 : decode i_L_law.2.1 946 = .ok (.aload_n 0, 1) := by decide +kernel
theorem d_L_law_947 : decode i_L_law.2.1 947 = .ok (.iload_n 3, 1) := by decide +kernel
theorem d_L_law_948 : decode i_L_law.2.1 948 = .ok (.iconst 1, 1) := by decide +kernel
theorem d_L_law_949 : decode i_L_law.2.1 949 = .ok (.iadd, 1) := by decide +kernel
theorem d_L_law_950 : decode i_L_law.2.1 950 = .ok (.iaload, 1) := by decide +kernel
theorem d_L_law_951 : decode i_L_law.2.1 951 = .ok (.aload_n 0, 1) := by decide +kernel
theorem d_L_law_952 : decode i_L_law.2.1 952 = .ok (.iload_n 3, 1) := by decide +kernel
theorem d_L_law_953 : decode i_L_law.2.1 953 = .ok (.iconst 2, 1) := by decide +kernel
theorem d_L_law_954 : decode i_L_law.2.1 954 = .ok (.iadd, 1) := by decide +kernel
theorem d_L_law_955 : decode i_L_law.2.1 955 = .ok (.iaload, 1) := by decide +kernel
theorem d_L_law_956 : decode i_L_law.2.1 956 = .ok (.invokevirtual 137, 3) := by decide +kernel
theorem d_L_law_959 : decode i_L_law.2.1 959 = .ok (.if_icmp .eq 100, 3) := by decide +kernel
theorem d_L_law_962 : decode i_L_law.2.1 962 = .ok (.iconst 0, 1) := by decide +kernel
theorem d_L_law_963 : decode i_L_law.2.1 963 = .ok (.ireturn, 1) := by decide +kernel
theorem d_L_law_964 : decode i_L_law.2.1 964 = .ok (.aload_n 1, 1) := by decide +kernel
theorem d_L_law_965 : decode i_L_law.2.1 965 = .ok (.invokevirtual 138, 3) := by decide +kernel
theorem d_L_law_968 : decode i_L_law.2.1 968 = .ok (.aload_n 2, 1) := by decide +kernel
theorem d_L_law_969 : decode i_L_law.2.1 969 = .ok (.invokevirtual 141, 3) := by decide +kernel
theorem d_L_law_972 : decode i_L_law.2.1 972 = .ok (.if_icmp .eq 87, 3) := by decide +kernel
theorem d_L_law_975 : decode i_L_law.2.1 975 = .ok (.iconst 0, 1) := by decide +kernel
theorem d_L_law_976 : decode i_L_law.2.1 976 = .ok (.ireturn, 1) := by decide +kernel
theorem d_L_law_977 : decode i_L_law.2.1 977 = .ok (.aload_n 1, 1) := by decide +kernel
theorem d_L_law_978 : decode i_L_law.2.1 978 = .ok (.invokevirtual 142, 3) := by decide +kernel
theorem d_L_law_981 : decode i_L_law.2.1 981 = .ok (.aload_n 2, 1) := by decide +kernel
theorem d_L_law_982 : decode i_L_law.2.1 982 = .ok (.invokevirtual 145, 3) := by decide +kernel
theorem d_L_law_985 : decode i_L_law.2.1 985 = .ok (.if_icmp .eq 74, 3) := by decide +kernel
theorem d_L_law_988 : decode i_L_law.2.1 988 = .ok (.iconst 0, 1) := by decide +kernel
theorem d_L_law_989 : decode i_L_law.2.1 989 = .ok (.ireturn, 1) := by decide +kernel
theorem d_L_law_990 : decode i_L_law.2.1 990 = .ok (.aload_n 1, 1) := by decide +kernel
theorem d_L_law_991 : decode i_L_law.2.1 991 = .ok (.aload_n 0, 1) := by decide +kernel
theorem d_L_law_992 : decode i_L_law.2.1 992 = .ok (.iload_n 3, 1) := by decide +kernel
theorem d_L_law_993 : decode i_L_law.2.1 993 = .ok (.iconst 1, 1) := by decide +kernel
theorem d_L_law_994 : decode i_L_law.2.1 994 = .ok (.iadd, 1) := by decide +kernel
theorem d_L_law_995 : decode i_L_law.2.1 995 = .ok (.iaload, 1) := by decide +kernel
theorem d_L_law_996 : decode i_L_law.2.1 996 = .ok (.invokevirtual 146, 3) := by decide +kernel
theorem d_L_law_999 : decode i_L_law.2.1 999 = .ok (.aload_n 2, 1) := by decide +kernel
theorem d_L_law_1000 : decode i_L_law.2.1 1000 = .ok (.aload_n 0, 1) := by decide +kernel
theorem d_L_law_1001 : decode i_L_law.2.1 1001 = .ok (.iload_n 3, 1) := by decide +kernel
theorem d_L_law_1002 : decode i_L_law.2.1 1002 = .ok (.iconst 1, 1) := by decide +kernel
theorem d_L_law_1003 : decode i_L_law.2.1 1003 = .ok (.iadd, 1) := by decide +kernel
theorem d_L_law_1004 : decode i_L_law.2.1 1004 = .ok (.iaload, 1) := by decide +kernel
theorem d_L_law_1005 : decode i_L_law.2.1 1005 = .ok (.invokevirtual 149, 3) := by decide +kernel
theorem d_L_law_1008 : decode i_L_law.2.1 1008 = .ok (.if_icmp .eq 51, 3) := by decide +kernel
theorem d_L_law_1011 : decode i_L_law.2.1 1011 = .ok (.iconst 0, 1) := by decide +kernel
theorem d_L_law_1012 : decode i_L_law.2.1 1012 = .ok (.ireturn, 1) := by decide +kernel
theorem d_L_law_1013 : decode i_L_law.2.1 1013 = .ok (.aload_n 1, 1) := by decide +kernel
theorem d_L_law_1014 : decode i_L_law.2.1 1014 = .ok (.aload_n 0, 1) := by decide +kernel
theorem d_L_law_1015 : decode i_L_law.2.1 1015 = .ok (.iload_n 3, 1) := by decide +kernel
theorem d_L_law_1016 : decode i_L_law.2.1 1016 = .ok (.iconst 1, 1) := by decide +kernel
theorem d_L_law_1017 : decode i_L_law.2.1 1017 = .ok (.iadd, 1) := by decide +kernel
theorem d_L_law_1018 : decode i_L_law.2.1 1018 = .ok (.iaload, 1) := by decide +kernel
theorem d_L_law_1019 : decode i_L_law.2.1 1019 = .ok (.invokevirtual 150, 3) := by decide +kernel
theorem d_L_law_1022 : decode i_L_law.2.1 1022 = .ok (.aload_n 2, 1) := by decide +kernel
theorem d_L_law_1023 : decode i_L_law.2.1 1023 = .ok (.aload_n 0, 1) := by decide +kernel
theorem d_L_law_1024 : decode i_L_law.2.1 1024 = .ok (.iload_n 3, 1) := by decide +kernel
theorem d_L_law_1025 : decode i_L_law.2.1 1025 = .ok (.iconst 1, 1) := by decide +kernel
theorem d_L_law_1026 : decode i_L_law.2.1 1026 = .ok (.iadd, 1) := by decide +kernel
theorem d_L_law_1027 : decode i_L_law.2.1 1027 = .ok (.iaload, 1) := by decide +kernel
theorem d_L_law_1028 : decode i_L_law.2.1 1028 = .ok (.invokevirtual 153, 3) := by decide +kernel
theorem d_L_law_1031 : decode i_L_law.2.1 1031 = .ok (.if_icmp .eq 28, 3) := by decide +kernel
theorem d_L_law_1034 : decode i_L_law.2.1 1034 = .ok (.iconst 0, 1) := by decide +kernel
theorem d_L_law_1035 : decode i_L_law.2.1 1035 = .ok (.ireturn, 1) := by decide +kernel
theorem d_L_law_1036 : decode i_L_law.2.1 1036 = .ok (.aload_n 1, 1) := by decide +kernel
theorem d_L_law_1037 : decode i_L_law.2.1 1037 = .ok (.aload_n 0, 1) := by decide +kernel
theorem d_L_law_1038 : decode i_L_law.2.1 1038 = .ok (.iload_n 3, 1) := by decide +kernel
theorem d_L_law_1039 : decode i_L_law.2.1 1039 = .ok (.iconst 1, 1) := by decide +kernel
theorem d_L_law_1040 : decode i_L_law.2.1 1040 = .ok (.iadd, 1) := by decide +kernel
theorem d_L_law_1041 : decode i_L_law.2.1 1041 = .ok (.iaload, 1) := by decide +kernel
theorem d_L_law_1042 : decode i_L_law.2.1 1042 = .ok (.invokevirtual 154, 3) := by decide +kernel
theorem d_L_law_1045 : decode i_L_law.2.1 1045 = .ok (.aload_n 2, 1) := by decide +kernel
theorem d_L_law_1046 : decode i_L_law.2.1 1046 = .ok (.aload_n 0, 1) := by decide +kernel
theorem d_L_law_1047 : decode i_L_law.2.1 1047 = .ok (.iload_n 3, 1) := by decide +kernel
theorem d_L_law_1048 : decode i_L_law.2.1 1048 = .ok (.iconst 1, 1) := by decide +kernel
theorem d_L_law_1049 : decode i_L_law.2.1 1049 = .ok (.iadd, 1) := by decide +kernel
theorem d_L_law_1050 : decode i_L_law.2.1 1050 = .ok (.iaload, 1) := by decide +kernel
theorem d_L_law_1051 : decode i_L_law.2.1 1051 = .ok (.invokevirtual 157, 3) := by decide +kernel
theorem d_L_law_1054 : decode i_L_law.2.1 1054 = .ok (.if_icmp .eq 5, 3) := by decide +kernel
theorem d_L_law_1057 : decode i_L_law.2.1 1057 = .ok (.iconst 0, 1) := by decide +kernel
theorem d_L_law_1058 : decode i_L_law.2.1 1058 = .ok (.ireturn, 1) := by decide +kernel
theorem d_L_law_1059 : decode i_L_law.2.1 1059 = .ok (.iinc 3 4, 3) := by decide +kernel
theorem d_L_law_1062 : decode i_L_law.2.1 1062 = .ok (.goto (-1044), 3) := by decide +kernel
theorem d_L_law_1065 : decode i_L_law.2.1 1065 = .ok (.iconst 1, 1) := by decide +kernel
theorem d_L_law_1066 : decode i_L_law.2.1 1066 = .ok (.ireturn, 1) := by decide +kernel
def J_L_law_897 (P18 : Int → Hp → Prop) (x1 : Nat) (x2 : Nat) (x3 : Int) (y0 : Int) (y1 : Int) (y2 : Int) (y3 : Nat) (y4 : Int) (h : Hp) (Q : Int → Hp → Prop) : Prop :=
  hK h y3 = 11 ∧ C_X12_hear y3 y2 y1 y0 h (fun r2 h1 => ((y4 = r2 → (((-2147483648 : Int) ≤ x3 + 4 ∧ x3 + 4 ≤ (2147483647 : Int)) ∧ (P18 (x3 + 4) h1))) ∧ (¬ y4 = r2 → (Q 0 h1))))
theorem GJ_L_law_897 {P18 : Int → Hp → Prop} (x1 : Nat) (x2 : Nat) (x3 : Int) (y0 : Int) (y1 : Int) (y2 : Int) (y3 : Nat) (y4 : Int) (h : Hp) (Q : Int → Hp → Prop) (hP18 : ∀ (m3 : Int) (h : Hp), P18 m3 h → Go i_L_law 18 [(0, .inr (.inr 1)), (1, .inr (.inr x1)), (2, .inr (.inr x2)), (3, .inl m3)] [] h (qI Q)) (hV : J_L_law_897 P18 x1 x2 x3 y0 y1 y2 y3 y4 h Q) : Go i_L_law 897 [(0, .inr (.inr 1)), (1, .inr (.inr x1)), (2, .inr (.inr x2)), (3, .inl x3)] [.inl y0, .inl y1, .inl y2, .inr (.inr y3), .inl y4] h (qI Q) := by
  unfold J_L_law_897 at hV
  obtain ⟨o, hV⟩ := hV
  refine v_RL_125 rfl (Nat.le_of_ble_eq_true rfl) d_L_law_897 o (Nat.le_of_ble_eq_true rfl) hV (fun r2 h1 hV => ?_)
  refine s_icmp_eq (tgt := 1059) d_L_law_900 (by decide) (fun c => ?_) (fun c => ?_)
  · have hV := hV.1 c
    obtain ⟨o, hV⟩ := hV
    refine s_iinc (lv' := [(3, .inl (x3 + 4)), (0, .inr (.inr 1)), (1, .inr (.inr x1)), (2, .inr (.inr x2))]) d_L_law_1059 (ma 3 rfl) o (Nat.le_of_ble_eq_true rfl) rfl ?_
    refine s_goto (tgt := 18) d_L_law_1062 (by decide) ?_
    refine s_pick (lv' := [(0, .inr (.inr 1)), (1, .inr (.inr x1)), (2, .inr (.inr x2)), (3, .inl (x3 + 4))]) [1, 2, 3, 0] rfl ?_
    exact hP18 _ _ hV
  · have hV := hV.2 c
    refine s_iconst d_L_law_903 (okn rfl) ?_
    exact s_iret d_L_law_904 rfl (nar_z (Or.inl rfl)) ⟨_, rfl, hV⟩
def J_L_law_870 (P18 : Int → Hp → Prop) (x1 : Nat) (x2 : Nat) (x3 : Int) (y0 : Int) (y1 : Int) (y2 : Int) (y3 : Nat) (h : Hp) (Q : Int → Hp → Prop) : Prop :=
  hK h y3 = 10 ∧ C_X11_hear y3 y2 y1 y0 h (fun r2 h1 => (((-2147483648 : Int) ≤ x3 + 1 ∧ x3 + 1 ≤ (2147483647 : Int)) ∧ (((0 : Int) ≤ x3 + 1 ∧ x3 + 1 < hL h1 1) ∧ (((-2147483648 : Int) ≤ x3 + 2 ∧ x3 + 2 ≤ (2147483647 : Int)) ∧ (((0 : Int) ≤ x3 + 2 ∧ x3 + 2 < hL h1 1) ∧ (((-2147483648 : Int) ≤ x3 + 3 ∧ x3 + 3 ≤ (2147483647 : Int)) ∧ (((0 : Int) ≤ x3 + 3 ∧ x3 + 3 < hL h1 1) ∧ ((hI h1 1 (x3 + 3) = 0 → (J_L_law_897 P18 x1 x2 x3 0 (hI h1 1 (x3 + 2)) (hI h1 1 (x3 + 1)) x2 r2 h1 Q)) ∧ (¬ hI h1 1 (x3 + 3) = 0 → (J_L_law_897 P18 x1 x2 x3 1 (hI h1 1 (x3 + 2)) (hI h1 1 (x3 + 1)) x2 r2 h1 Q))))))))))
theorem GJ_L_law_870 {P18 : Int → Hp → Prop} (x1 : Nat) (x2 : Nat) (x3 : Int) (y0 : Int) (y1 : Int) (y2 : Int) (y3 : Nat) (h : Hp) (Q : Int → Hp → Prop) (hP18 : ∀ (m3 : Int) (h : Hp), P18 m3 h → Go i_L_law 18 [(0, .inr (.inr 1)), (1, .inr (.inr x1)), (2, .inr (.inr x2)), (3, .inl m3)] [] h (qI Q)) (hV : J_L_law_870 P18 x1 x2 x3 y0 y1 y2 y3 h Q) : Go i_L_law 870 [(0, .inr (.inr 1)), (1, .inr (.inr x1)), (2, .inr (.inr x2)), (3, .inl x3)] [.inl y0, .inl y1, .inl y2, .inr (.inr y3)] h (qI Q) := by
  unfold J_L_law_870 at hV
  obtain ⟨o, hV⟩ := hV
  refine v_RL_121 rfl (Nat.le_of_ble_eq_true rfl) d_L_law_870 o (Nat.le_of_ble_eq_true rfl) hV (fun r2 h1 hV => ?_)
  refine s_aload_n d_L_law_873 rfl (ma 2 rfl) ?_
  refine s_aload_n d_L_law_874 rfl (ma 0 rfl) ?_
  refine s_iload_n d_L_law_875 rfl (ma 3 rfl) ?_
  refine s_iconst d_L_law_876 (okn rfl) ?_
  obtain ⟨o, hV⟩ := hV
  refine s_iadd d_L_law_877 o ?_
  obtain ⟨o, hV⟩ := hV
  refine s_sld d_L_law_878 o.1 o.2 ?_
  refine s_aload_n d_L_law_879 rfl (ma 0 rfl) ?_
  refine s_iload_n d_L_law_880 rfl (ma 3 rfl) ?_
  refine s_iconst d_L_law_881 (okn rfl) ?_
  obtain ⟨o, hV⟩ := hV
  refine s_iadd d_L_law_882 o ?_
  obtain ⟨o, hV⟩ := hV
  refine s_sld d_L_law_883 o.1 o.2 ?_
  refine s_aload_n d_L_law_884 rfl (ma 0 rfl) ?_
  refine s_iload_n d_L_law_885 rfl (ma 3 rfl) ?_
  refine s_iconst d_L_law_886 (okn rfl) ?_
  obtain ⟨o, hV⟩ := hV
  refine s_iadd d_L_law_887 o ?_
  obtain ⟨o, hV⟩ := hV
  refine s_sld d_L_law_888 o.1 o.2 ?_
  refine s_if_eq (tgt := 896) d_L_law_889 (by decide) (fun c => ?_) (fun c => ?_)
  · have hV := hV.1 c
    refine s_iconst d_L_law_896 (okn rfl) ?_
    exact GJ_L_law_897 _ _ _ _ _ _ _ _ _ _ (by intros; apply hP18; assumption) hV
  · have hV := hV.2 c
    refine s_iconst d_L_law_892 (okn rfl) ?_
    refine s_goto (tgt := 897) d_L_law_893 (by decide) ?_
    exact GJ_L_law_897 _ _ _ _ _ _ _ _ _ _ (by intros; apply hP18; assumption) hV
def BLp_L_law_18 (x1 : Nat) (x2 : Nat) (P18 : Int → Hp → Prop) (x3 : Int) (h : Hp) (Q : Int → Hp → Prop) : Prop :=
  ((-2147483648 : Int) ≤ (hL h 1) - 4 ∧ (hL h 1) - 4 ≤ (2147483647 : Int)) ∧ (((hL h 1) - 4 < x3 → (Q 1 h)) ∧ (¬ (hL h 1) - 4 < x3 → (((0 : Int) ≤ x3 ∧ x3 < hL h 1) ∧ (((zAnd (hI h 1 x3) 63 < 0 ∨ 34 < zAnd (hI h 1 x3) 63) → (((-2147483648 : Int) ≤ x3 + 4 ∧ x3 + 4 ≤ (2147483647 : Int)) ∧ (P18 (x3 + 4) h))) ∧ (zAnd (hI h 1 x3) 63 = 0 → (((-2147483648 : Int) ≤ x3 + 1 ∧ x3 + 1 ≤ (2147483647 : Int)) ∧ (((0 : Int) ≤ x3 + 1 ∧ x3 + 1 < hL h 1) ∧ (hK h x1 = 10 ∧ C_X11_feed x1 (hI h 1 (x3 + 1)) h (fun r2 h1 => (((-2147483648 : Int) ≤ x3 + 1 ∧ x3 + 1 ≤ (2147483647 : Int)) ∧ (((0 : Int) ≤ x3 + 1 ∧ x3 + 1 < hL h1 1) ∧ (hK h1 x2 = 11 ∧ C_X12_feed x2 (hI h1 1 (x3 + 1)) h1 (fun r4 h3 => ((r2 = r4 → (((-2147483648 : Int) ≤ x3 + 4 ∧ x3 + 4 ≤ (2147483647 : Int)) ∧ (P18 (x3 + 4) h3))) ∧ (¬ r2 = r4 → (Q 0 h3)))))))))))) ∧ (zAnd (hI h 1 x3) 63 = 1 → (hK h x1 = 10 ∧ C_X11_desk x1  h (fun r6 h5 => (hK h5 x2 = 11 ∧ C_X12_desk x2  h5 (fun r8 h7 => ((r6 = r8 → (((-2147483648 : Int) ≤ x3 + 4 ∧ x3 + 4 ≤ (2147483647 : Int)) ∧ (P18 (x3 + 4) h7))) ∧ (¬ r6 = r8 → (Q 0 h7)))))))) ∧ (zAnd (hI h 1 x3) 63 = 2 → (hK h x1 = 10 ∧ C_X11_fault x1  h (fun r10 h9 => (hK h9 x2 = 11 ∧ C_X12_fault x2  h9 (fun r12 h11 => ((r10 = r12 → (((-2147483648 : Int) ≤ x3 + 4 ∧ x3 + 4 ≤ (2147483647 : Int)) ∧ (P18 (x3 + 4) h11))) ∧ (¬ r10 = r12 → (Q 0 h11)))))))) ∧ (zAnd (hI h 1 x3) 63 = 3 → (((-2147483648 : Int) ≤ x3 + 1 ∧ x3 + 1 ≤ (2147483647 : Int)) ∧ (((0 : Int) ≤ x3 + 1 ∧ x3 + 1 < hL h 1) ∧ (hK h x1 = 10 ∧ C_X11_told x1 (hI h 1 (x3 + 1)) h (fun r14 h13 => (((-2147483648 : Int) ≤ x3 + 1 ∧ x3 + 1 ≤ (2147483647 : Int)) ∧ (((0 : Int) ≤ x3 + 1 ∧ x3 + 1 < hL h13 1) ∧ (hK h13 x2 = 11 ∧ C_X12_told x2 (hI h13 1 (x3 + 1)) h13 (fun r16 h15 => ((r14 = r16 → (((-2147483648 : Int) ≤ x3 + 4 ∧ x3 + 4 ≤ (2147483647 : Int)) ∧ (P18 (x3 + 4) h15))) ∧ (¬ r14 = r16 → (Q 0 h15)))))))))))) ∧ (zAnd (hI h 1 x3) 63 = 4 → (((-2147483648 : Int) ≤ x3 + 1 ∧ x3 + 1 ≤ (2147483647 : Int)) ∧ (((0 : Int) ≤ x3 + 1 ∧ x3 + 1 < hL h 1) ∧ (hK h x1 = 10 ∧ C_X11_at x1 (hI h 1 (x3 + 1)) h (fun r18 h17 => (((-2147483648 : Int) ≤ x3 + 1 ∧ x3 + 1 ≤ (2147483647 : Int)) ∧ (((0 : Int) ≤ x3 + 1 ∧ x3 + 1 < hL h17 1) ∧ (hK h17 x2 = 11 ∧ C_X12_at x2 (hI h17 1 (x3 + 1)) h17 (fun r20 h19 => ((r18 = r20 → (((-2147483648 : Int) ≤ x3 + 4 ∧ x3 + 4 ≤ (2147483647 : Int)) ∧ (P18 (x3 + 4) h19))) ∧ (¬ r18 = r20 → (Q 0 h19)))))))))))) ∧ (zAnd (hI h 1 x3) 63 = 5 → (((-2147483648 : Int) ≤ x3 + 1 ∧ x3 + 1 ≤ (2147483647 : Int)) ∧ (((0 : Int) ≤ x3 + 1 ∧ x3 + 1 < hL h 1) ∧ (((-2147483648 : Int) ≤ x3 + 2 ∧ x3 + 2 ≤ (2147483647 : Int)) ∧ (((0 : Int) ≤ x3 + 2 ∧ x3 + 2 < hL h 1) ∧ (hK h x1 = 10 ∧ C_X11_spelt x1 (hI h 1 (x3 + 1)) (hI h 1 (x3 + 2)) h (fun r22 h21 => (((-2147483648 : Int) ≤ x3 + 1 ∧ x3 + 1 ≤ (2147483647 : Int)) ∧ (((0 : Int) ≤ x3 + 1 ∧ x3 + 1 < hL h21 1) ∧ (((-2147483648 : Int) ≤ x3 + 2 ∧ x3 + 2 ≤ (2147483647 : Int)) ∧ (((0 : Int) ≤ x3 + 2 ∧ x3 + 2 < hL h21 1) ∧ (hK h21 x2 = 11 ∧ C_X12_spelt x2 (hI h21 1 (x3 + 1)) (hI h21 1 (x3 + 2)) h21 (fun r24 h23 => ((r22 = r24 → (((-2147483648 : Int) ≤ x3 + 4 ∧ x3 + 4 ≤ (2147483647 : Int)) ∧ (P18 (x3 + 4) h23))) ∧ (¬ r22 = r24 → (Q 0 h23)))))))))))))))) ∧ (zAnd (hI h 1 x3) 63 = 6 → (((-2147483648 : Int) ≤ x3 + 1 ∧ x3 + 1 ≤ (2147483647 : Int)) ∧ (((0 : Int) ≤ x3 + 1 ∧ x3 + 1 < hL h 1) ∧ (((-2147483648 : Int) ≤ x3 + 2 ∧ x3 + 2 ≤ (2147483647 : Int)) ∧ (((0 : Int) ≤ x3 + 2 ∧ x3 + 2 < hL h 1) ∧ (hK h x1 = 10 ∧ C_X11_logged x1 (hI h 1 (x3 + 1)) (hI h 1 (x3 + 2)) h (fun r26 h25 => (((-2147483648 : Int) ≤ x3 + 1 ∧ x3 + 1 ≤ (2147483647 : Int)) ∧ (((0 : Int) ≤ x3 + 1 ∧ x3 + 1 < hL h25 1) ∧ (((-2147483648 : Int) ≤ x3 + 2 ∧ x3 + 2 ≤ (2147483647 : Int)) ∧ (((0 : Int) ≤ x3 + 2 ∧ x3 + 2 < hL h25 1) ∧ (hK h25 x2 = 11 ∧ C_X12_logged x2 (hI h25 1 (x3 + 1)) (hI h25 1 (x3 + 2)) h25 (fun r28 h27 => ((r26 = r28 → (((-2147483648 : Int) ≤ x3 + 4 ∧ x3 + 4 ≤ (2147483647 : Int)) ∧ (P18 (x3 + 4) h27))) ∧ (¬ r26 = r28 → (Q 0 h27)))))))))))))))) ∧ (zAnd (hI h 1 x3) 63 = 7 → (((-2147483648 : Int) ≤ x3 + 1 ∧ x3 + 1 ≤ (2147483647 : Int)) ∧ (((0 : Int) ≤ x3 + 1 ∧ x3 + 1 < hL h 1) ∧ (hK h x1 = 10 ∧ C_X11_read x1 (hI h 1 (x3 + 1)) h (fun r30 h29 => (((-2147483648 : Int) ≤ x3 + 1 ∧ x3 + 1 ≤ (2147483647 : Int)) ∧ (((0 : Int) ≤ x3 + 1 ∧ x3 + 1 < hL h29 1) ∧ (hK h29 x2 = 11 ∧ C_X12_read x2 (hI h29 1 (x3 + 1)) h29 (fun r32 h31 => ((r30 = r32 → (((-2147483648 : Int) ≤ x3 + 4 ∧ x3 + 4 ≤ (2147483647 : Int)) ∧ (P18 (x3 + 4) h31))) ∧ (¬ r30 = r32 → (Q 0 h31)))))))))))) ∧ (zAnd (hI h 1 x3) 63 = 8 → (hK h x1 = 10 ∧ C_X11_unread x1  h (fun r34 h33 => (hK h33 x2 = 11 ∧ C_X12_unread x2  h33 (fun r36 h35 => ((r34 = r36 → (((-2147483648 : Int) ≤ x3 + 4 ∧ x3 + 4 ≤ (2147483647 : Int)) ∧ (P18 (x3 + 4) h35))) ∧ (¬ r34 = r36 → (Q 0 h35)))))))) ∧ (zAnd (hI h 1 x3) 63 = 9 → (((-2147483648 : Int) ≤ x3 + 1 ∧ x3 + 1 ≤ (2147483647 : Int)) ∧ (((0 : Int) ≤ x3 + 1 ∧ x3 + 1 < hL h 1) ∧ (hK h x1 = 10 ∧ C_X11_put x1 (hI h 1 (x3 + 1)) h (fun r38 h37 => (((-2147483648 : Int) ≤ x3 + 1 ∧ x3 + 1 ≤ (2147483647 : Int)) ∧ (((0 : Int) ≤ x3 + 1 ∧ x3 + 1 < hL h37 1) ∧ (hK h37 x2 = 11 ∧ C_X12_put x2 (hI h37 1 (x3 + 1)) h37 (fun r40 h39 => ((r38 = r40 → (((-2147483648 : Int) ≤ x3 + 4 ∧ x3 + 4 ≤ (2147483647 : Int)) ∧ (P18 (x3 + 4) h39))) ∧ (¬ r38 = r40 → (Q 0 h39)))))))))))) ∧ (zAnd (hI h 1 x3) 63 = 10 → (((-2147483648 : Int) ≤ x3 + 1 ∧ x3 + 1 ≤ (2147483647 : Int)) ∧ (((0 : Int) ≤ x3 + 1 ∧ x3 + 1 < hL h 1) ∧ (hK h x1 = 10 ∧ C_X11_word x1 (hI h 1 (x3 + 1)) h (fun r42 h41 => (((-2147483648 : Int) ≤ x3 + 1 ∧ x3 + 1 ≤ (2147483647 : Int)) ∧ (((0 : Int) ≤ x3 + 1 ∧ x3 + 1 < hL h41 1) ∧ (hK h41 x2 = 11 ∧ C_X12_word x2 (hI h41 1 (x3 + 1)) h41 (fun r44 h43 => ((r42 = r44 → (((-2147483648 : Int) ≤ x3 + 4 ∧ x3 + 4 ≤ (2147483647 : Int)) ∧ (P18 (x3 + 4) h43))) ∧ (¬ r42 = r44 → (Q 0 h43)))))))))))) ∧ (zAnd (hI h 1 x3) 63 = 11 → (((-2147483648 : Int) ≤ x3 + 1 ∧ x3 + 1 ≤ (2147483647 : Int)) ∧ (((0 : Int) ≤ x3 + 1 ∧ x3 + 1 < hL h 1) ∧ (((-2147483648 : Int) ≤ x3 + 2 ∧ x3 + 2 ≤ (2147483647 : Int)) ∧ (((0 : Int) ≤ x3 + 2 ∧ x3 + 2 < hL h 1) ∧ (hK h x1 = 10 ∧ C_X11_change x1 (hI h 1 (x3 + 1)) (hI h 1 (x3 + 2)) h (fun r46 h45 => (((-2147483648 : Int) ≤ x3 + 1 ∧ x3 + 1 ≤ (2147483647 : Int)) ∧ (((0 : Int) ≤ x3 + 1 ∧ x3 + 1 < hL h45 1) ∧ (((-2147483648 : Int) ≤ x3 + 2 ∧ x3 + 2 ≤ (2147483647 : Int)) ∧ (((0 : Int) ≤ x3 + 2 ∧ x3 + 2 < hL h45 1) ∧ (hK h45 x2 = 11 ∧ C_X12_change x2 (hI h45 1 (x3 + 1)) (hI h45 1 (x3 + 2)) h45 (fun r48 h47 => ((r46 = r48 → (((-2147483648 : Int) ≤ x3 + 4 ∧ x3 + 4 ≤ (2147483647 : Int)) ∧ (P18 (x3 + 4) h47))) ∧ (¬ r46 = r48 → (Q 0 h47)))))))))))))))) ∧ (zAnd (hI h 1 x3) 63 = 12 → (((-2147483648 : Int) ≤ x3 + 1 ∧ x3 + 1 ≤ (2147483647 : Int)) ∧ (((0 : Int) ≤ x3 + 1 ∧ x3 + 1 < hL h 1) ∧ (hK h x1 = 10 ∧ C_X11_drop x1 (hI h 1 (x3 + 1)) h (fun r50 h49 => (((-2147483648 : Int) ≤ x3 + 1 ∧ x3 + 1 ≤ (2147483647 : Int)) ∧ (((0 : Int) ≤ x3 + 1 ∧ x3 + 1 < hL h49 1) ∧ (hK h49 x2 = 11 ∧ C_X12_drop x2 (hI h49 1 (x3 + 1)) h49 (fun r52 h51 => ((r50 = r52 → (((-2147483648 : Int) ≤ x3 + 4 ∧ x3 + 4 ≤ (2147483647 : Int)) ∧ (P18 (x3 + 4) h51))) ∧ (¬ r50 = r52 → (Q 0 h51)))))))))))) ∧ (zAnd (hI h 1 x3) 63 = 13 → (hK h x1 = 10 ∧ C_X11_turn x1  h (fun r54 h53 => (hK h53 x2 = 11 ∧ C_X12_turn x2  h53 (fun r56 h55 => ((r54 = r56 → (((-2147483648 : Int) ≤ x3 + 4 ∧ x3 + 4 ≤ (2147483647 : Int)) ∧ (P18 (x3 + 4) h55))) ∧ (¬ r54 = r56 → (Q 0 h55)))))))) ∧ (zAnd (hI h 1 x3) 63 = 14 → (((-2147483648 : Int) ≤ x3 + 1 ∧ x3 + 1 ≤ (2147483647 : Int)) ∧ (((0 : Int) ≤ x3 + 1 ∧ x3 + 1 < hL h 1) ∧ (hK h x1 = 10 ∧ C_X11_drift x1 (hI h 1 (x3 + 1)) h (fun r58 h57 => (((-2147483648 : Int) ≤ x3 + 1 ∧ x3 + 1 ≤ (2147483647 : Int)) ∧ (((0 : Int) ≤ x3 + 1 ∧ x3 + 1 < hL h57 1) ∧ (hK h57 x2 = 11 ∧ C_X12_drift x2 (hI h57 1 (x3 + 1)) h57 (fun r60 h59 => ((r58 = r60 → (((-2147483648 : Int) ≤ x3 + 4 ∧ x3 + 4 ≤ (2147483647 : Int)) ∧ (P18 (x3 + 4) h59))) ∧ (¬ r58 = r60 → (Q 0 h59)))))))))))) ∧ (zAnd (hI h 1 x3) 63 = 15 → (((-2147483648 : Int) ≤ x3 + 1 ∧ x3 + 1 ≤ (2147483647 : Int)) ∧ (((0 : Int) ≤ x3 + 1 ∧ x3 + 1 < hL h 1) ∧ (hK h x1 = 10 ∧ C_X11_undo x1 (hI h 1 (x3 + 1)) h (fun r62 h61 => (((-2147483648 : Int) ≤ x3 + 1 ∧ x3 + 1 ≤ (2147483647 : Int)) ∧ (((0 : Int) ≤ x3 + 1 ∧ x3 + 1 < hL h61 1) ∧ (hK h61 x2 = 11 ∧ C_X12_undo x2 (hI h61 1 (x3 + 1)) h61 (fun r64 h63 => ((r62 = r64 → (((-2147483648 : Int) ≤ x3 + 4 ∧ x3 + 4 ≤ (2147483647 : Int)) ∧ (P18 (x3 + 4) h63))) ∧ (¬ r62 = r64 → (Q 0 h63)))))))))))) ∧ (zAnd (hI h 1 x3) 63 = 16 → (((-2147483648 : Int) ≤ x3 + 1 ∧ x3 + 1 ≤ (2147483647 : Int)) ∧ (((0 : Int) ≤ x3 + 1 ∧ x3 + 1 < hL h 1) ∧ (((-2147483648 : Int) ≤ x3 + 2 ∧ x3 + 2 ≤ (2147483647 : Int)) ∧ (((0 : Int) ≤ x3 + 2 ∧ x3 + 2 < hL h 1) ∧ (hK h x1 = 10 ∧ C_X11_length x1 (hI h 1 (x3 + 1)) (hI h 1 (x3 + 2)) h (fun r66 h65 => (((-2147483648 : Int) ≤ x3 + 1 ∧ x3 + 1 ≤ (2147483647 : Int)) ∧ (((0 : Int) ≤ x3 + 1 ∧ x3 + 1 < hL h65 1) ∧ (((-2147483648 : Int) ≤ x3 + 2 ∧ x3 + 2 ≤ (2147483647 : Int)) ∧ (((0 : Int) ≤ x3 + 2 ∧ x3 + 2 < hL h65 1) ∧ (hK h65 x2 = 11 ∧ C_X12_length x2 (hI h65 1 (x3 + 1)) (hI h65 1 (x3 + 2)) h65 (fun r68 h67 => ((r66 = r68 → (((-2147483648 : Int) ≤ x3 + 4 ∧ x3 + 4 ≤ (2147483647 : Int)) ∧ (P18 (x3 + 4) h67))) ∧ (¬ r66 = r68 → (Q 0 h67)))))))))))))))) ∧ (zAnd (hI h 1 x3) 63 = 17 → (((-2147483648 : Int) ≤ x3 + 1 ∧ x3 + 1 ≤ (2147483647 : Int)) ∧ (((0 : Int) ≤ x3 + 1 ∧ x3 + 1 < hL h 1) ∧ (((-2147483648 : Int) ≤ x3 + 2 ∧ x3 + 2 ≤ (2147483647 : Int)) ∧ (((0 : Int) ≤ x3 + 2 ∧ x3 + 2 < hL h 1) ∧ (((-2147483648 : Int) ≤ x3 + 3 ∧ x3 + 3 ≤ (2147483647 : Int)) ∧ (((0 : Int) ≤ x3 + 3 ∧ x3 + 3 < hL h 1) ∧ (hK h x1 = 10 ∧ C_X11_figure x1 (hI h 1 (x3 + 1)) (hI h 1 (x3 + 2)) (hI h 1 (x3 + 3)) h (fun r70 h69 => (((-2147483648 : Int) ≤ x3 + 1 ∧ x3 + 1 ≤ (2147483647 : Int)) ∧ (((0 : Int) ≤ x3 + 1 ∧ x3 + 1 < hL h69 1) ∧ (((-2147483648 : Int) ≤ x3 + 2 ∧ x3 + 2 ≤ (2147483647 : Int)) ∧ (((0 : Int) ≤ x3 + 2 ∧ x3 + 2 < hL h69 1) ∧ (((-2147483648 : Int) ≤ x3 + 3 ∧ x3 + 3 ≤ (2147483647 : Int)) ∧ (((0 : Int) ≤ x3 + 3 ∧ x3 + 3 < hL h69 1) ∧ (hK h69 x2 = 11 ∧ C_X12_figure x2 (hI h69 1 (x3 + 1)) (hI h69 1 (x3 + 2)) (hI h69 1 (x3 + 3)) h69 (fun r72 h71 => ((r70 = r72 → (((-2147483648 : Int) ≤ x3 + 4 ∧ x3 + 4 ≤ (2147483647 : Int)) ∧ (P18 (x3 + 4) h71))) ∧ (¬ r70 = r72 → (Q 0 h71)))))))))))))))))))) ∧ (zAnd (hI h 1 x3) 63 = 18 → (((-2147483648 : Int) ≤ x3 + 1 ∧ x3 + 1 ≤ (2147483647 : Int)) ∧ (((0 : Int) ≤ x3 + 1 ∧ x3 + 1 < hL h 1) ∧ (((-2147483648 : Int) ≤ x3 + 2 ∧ x3 + 2 ≤ (2147483647 : Int)) ∧ (((0 : Int) ≤ x3 + 2 ∧ x3 + 2 < hL h 1) ∧ (((-2147483648 : Int) ≤ x3 + 3 ∧ x3 + 3 ≤ (2147483647 : Int)) ∧ (((0 : Int) ≤ x3 + 3 ∧ x3 + 3 < hL h 1) ∧ (hK h x1 = 10 ∧ C_X11_often x1 (hI h 1 (x3 + 1)) (hI h 1 (x3 + 2)) (hI h 1 (x3 + 3)) h (fun r74 h73 => (((-2147483648 : Int) ≤ x3 + 1 ∧ x3 + 1 ≤ (2147483647 : Int)) ∧ (((0 : Int) ≤ x3 + 1 ∧ x3 + 1 < hL h73 1) ∧ (((-2147483648 : Int) ≤ x3 + 2 ∧ x3 + 2 ≤ (2147483647 : Int)) ∧ (((0 : Int) ≤ x3 + 2 ∧ x3 + 2 < hL h73 1) ∧ (((-2147483648 : Int) ≤ x3 + 3 ∧ x3 + 3 ≤ (2147483647 : Int)) ∧ (((0 : Int) ≤ x3 + 3 ∧ x3 + 3 < hL h73 1) ∧ (hK h73 x2 = 11 ∧ C_X12_often x2 (hI h73 1 (x3 + 1)) (hI h73 1 (x3 + 2)) (hI h73 1 (x3 + 3)) h73 (fun r76 h75 => ((r74 = r76 → (((-2147483648 : Int) ≤ x3 + 4 ∧ x3 + 4 ≤ (2147483647 : Int)) ∧ (P18 (x3 + 4) h75))) ∧ (¬ r74 = r76 → (Q 0 h75)))))))))))))))))))) ∧ (zAnd (hI h 1 x3) 63 = 19 → (((-2147483648 : Int) ≤ x3 + 1 ∧ x3 + 1 ≤ (2147483647 : Int)) ∧ (((0 : Int) ≤ x3 + 1 ∧ x3 + 1 < hL h 1) ∧ (((-2147483648 : Int) ≤ x3 + 2 ∧ x3 + 2 ≤ (2147483647 : Int)) ∧ (((0 : Int) ≤ x3 + 2 ∧ x3 + 2 < hL h 1) ∧ (hK h x1 = 10 ∧ C_X11_first x1 (hI h 1 (x3 + 1)) (hI h 1 (x3 + 2)) h (fun r78 h77 => (((-2147483648 : Int) ≤ x3 + 1 ∧ x3 + 1 ≤ (2147483647 : Int)) ∧ (((0 : Int) ≤ x3 + 1 ∧ x3 + 1 < hL h77 1) ∧ (((-2147483648 : Int) ≤ x3 + 2 ∧ x3 + 2 ≤ (2147483647 : Int)) ∧ (((0 : Int) ≤ x3 + 2 ∧ x3 + 2 < hL h77 1) ∧ (hK h77 x2 = 11 ∧ C_X12_first x2 (hI h77 1 (x3 + 1)) (hI h77 1 (x3 + 2)) h77 (fun r80 h79 => ((r78 = r80 → (((-2147483648 : Int) ≤ x3 + 4 ∧ x3 + 4 ≤ (2147483647 : Int)) ∧ (P18 (x3 + 4) h79))) ∧ (¬ r78 = r80 → (Q 0 h79)))))))))))))))) ∧ (zAnd (hI h 1 x3) 63 = 20 → (((-2147483648 : Int) ≤ x3 + 1 ∧ x3 + 1 ≤ (2147483647 : Int)) ∧ (((0 : Int) ≤ x3 + 1 ∧ x3 + 1 < hL h 1) ∧ (hK h x1 = 10 ∧ C_X11_again x1 (hI h 1 (x3 + 1)) h (fun r82 h81 => (((-2147483648 : Int) ≤ x3 + 1 ∧ x3 + 1 ≤ (2147483647 : Int)) ∧ (((0 : Int) ≤ x3 + 1 ∧ x3 + 1 < hL h81 1) ∧ (hK h81 x2 = 11 ∧ C_X12_again x2 (hI h81 1 (x3 + 1)) h81 (fun r84 h83 => ((r82 = r84 → (((-2147483648 : Int) ≤ x3 + 4 ∧ x3 + 4 ≤ (2147483647 : Int)) ∧ (P18 (x3 + 4) h83))) ∧ (¬ r82 = r84 → (Q 0 h83)))))))))))) ∧ (zAnd (hI h 1 x3) 63 = 21 → (((-2147483648 : Int) ≤ x3 + 1 ∧ x3 + 1 ≤ (2147483647 : Int)) ∧ (((0 : Int) ≤ x3 + 1 ∧ x3 + 1 < hL h 1) ∧ (hK h x1 = 10 ∧ C_X11_apart x1 (hI h 1 (x3 + 1)) h (fun r86 h85 => (((-2147483648 : Int) ≤ x3 + 1 ∧ x3 + 1 ≤ (2147483647 : Int)) ∧ (((0 : Int) ≤ x3 + 1 ∧ x3 + 1 < hL h85 1) ∧ (hK h85 x2 = 11 ∧ C_X12_apart x2 (hI h85 1 (x3 + 1)) h85 (fun r88 h87 => ((r86 = r88 → (((-2147483648 : Int) ≤ x3 + 4 ∧ x3 + 4 ≤ (2147483647 : Int)) ∧ (P18 (x3 + 4) h87))) ∧ (¬ r86 = r88 → (Q 0 h87)))))))))))) ∧ (zAnd (hI h 1 x3) 63 = 22 → (((-2147483648 : Int) ≤ x3 + 1 ∧ x3 + 1 ≤ (2147483647 : Int)) ∧ (((0 : Int) ≤ x3 + 1 ∧ x3 + 1 < hL h 1) ∧ (hK h x1 = 10 ∧ C_X11_back x1 (hI h 1 (x3 + 1)) h (fun r90 h89 => (((-2147483648 : Int) ≤ x3 + 1 ∧ x3 + 1 ≤ (2147483647 : Int)) ∧ (((0 : Int) ≤ x3 + 1 ∧ x3 + 1 < hL h89 1) ∧ (hK h89 x2 = 11 ∧ C_X12_back x2 (hI h89 1 (x3 + 1)) h89 (fun r92 h91 => ((r90 = r92 → (((-2147483648 : Int) ≤ x3 + 4 ∧ x3 + 4 ≤ (2147483647 : Int)) ∧ (P18 (x3 + 4) h91))) ∧ (¬ r90 = r92 → (Q 0 h91)))))))))))) ∧ (zAnd (hI h 1 x3) 63 = 23 → (((-2147483648 : Int) ≤ x3 + 1 ∧ x3 + 1 ≤ (2147483647 : Int)) ∧ (((0 : Int) ≤ x3 + 1 ∧ x3 + 1 < hL h 1) ∧ (hK h x1 = 10 ∧ C_X11_in x1 (hI h 1 (x3 + 1)) h (fun r94 h93 => (((-2147483648 : Int) ≤ x3 + 1 ∧ x3 + 1 ≤ (2147483647 : Int)) ∧ (((0 : Int) ≤ x3 + 1 ∧ x3 + 1 < hL h93 1) ∧ (hK h93 x2 = 11 ∧ C_X12_in x2 (hI h93 1 (x3 + 1)) h93 (fun r96 h95 => ((r94 = r96 → (((-2147483648 : Int) ≤ x3 + 4 ∧ x3 + 4 ≤ (2147483647 : Int)) ∧ (P18 (x3 + 4) h95))) ∧ (¬ r94 = r96 → (Q 0 h95)))))))))))) ∧ (zAnd (hI h 1 x3) 63 = 24 → (((-2147483648 : Int) ≤ x3 + 1 ∧ x3 + 1 ≤ (2147483647 : Int)) ∧ (((0 : Int) ≤ x3 + 1 ∧ x3 + 1 < hL h 1) ∧ (hK h x1 = 10 ∧ C_X11_changes x1 (hI h 1 (x3 + 1)) h (fun r98 h97 => (((-2147483648 : Int) ≤ x3 + 1 ∧ x3 + 1 ≤ (2147483647 : Int)) ∧ (((0 : Int) ≤ x3 + 1 ∧ x3 + 1 < hL h97 1) ∧ (hK h97 x2 = 11 ∧ C_X12_changes x2 (hI h97 1 (x3 + 1)) h97 (fun r100 h99 => ((r98 = r100 → (((-2147483648 : Int) ≤ x3 + 4 ∧ x3 + 4 ≤ (2147483647 : Int)) ∧ (P18 (x3 + 4) h99))) ∧ (¬ r98 = r100 → (Q 0 h99)))))))))))) ∧ (zAnd (hI h 1 x3) 63 = 25 → (((-2147483648 : Int) ≤ x3 + 1 ∧ x3 + 1 ≤ (2147483647 : Int)) ∧ (((0 : Int) ≤ x3 + 1 ∧ x3 + 1 < hL h 1) ∧ (((-2147483648 : Int) ≤ x3 + 2 ∧ x3 + 2 ≤ (2147483647 : Int)) ∧ (((0 : Int) ≤ x3 + 2 ∧ x3 + 2 < hL h 1) ∧ (hK h x1 = 10 ∧ C_X11_noSlip x1 (hI h 1 (x3 + 1)) (hI h 1 (x3 + 2)) h (fun r102 h101 => (((-2147483648 : Int) ≤ x3 + 1 ∧ x3 + 1 ≤ (2147483647 : Int)) ∧ (((0 : Int) ≤ x3 + 1 ∧ x3 + 1 < hL h101 1) ∧ (((-2147483648 : Int) ≤ x3 + 2 ∧ x3 + 2 ≤ (2147483647 : Int)) ∧ (((0 : Int) ≤ x3 + 2 ∧ x3 + 2 < hL h101 1) ∧ (hK h101 x2 = 11 ∧ C_X12_noSlip x2 (hI h101 1 (x3 + 1)) (hI h101 1 (x3 + 2)) h101 (fun r104 h103 => ((r102 = r104 → (((-2147483648 : Int) ≤ x3 + 4 ∧ x3 + 4 ≤ (2147483647 : Int)) ∧ (P18 (x3 + 4) h103))) ∧ (¬ r102 = r104 → (Q 0 h103)))))))))))))))) ∧ (zAnd (hI h 1 x3) 63 = 26 → (((-2147483648 : Int) ≤ x3 + 1 ∧ x3 + 1 ≤ (2147483647 : Int)) ∧ (((0 : Int) ≤ x3 + 1 ∧ x3 + 1 < hL h 1) ∧ (((-2147483648 : Int) ≤ x3 + 2 ∧ x3 + 2 ≤ (2147483647 : Int)) ∧ (((0 : Int) ≤ x3 + 2 ∧ x3 + 2 < hL h 1) ∧ (((-2147483648 : Int) ≤ x3 + 3 ∧ x3 + 3 ≤ (2147483647 : Int)) ∧ (((0 : Int) ≤ x3 + 3 ∧ x3 + 3 < hL h 1) ∧ ((hI h 1 (x3 + 3) = 0 → (J_L_law_870 P18 x1 x2 x3 0 (hI h 1 (x3 + 2)) (hI h 1 (x3 + 1)) x1 h Q)) ∧ (¬ hI h 1 (x3 + 3) = 0 → (J_L_law_870 P18 x1 x2 x3 1 (hI h 1 (x3 + 2)) (hI h 1 (x3 + 1)) x1 h Q)))))))))) ∧ (zAnd (hI h 1 x3) 63 = 27 → (hK h x1 = 10 ∧ C_X11_couldBe x1  h (fun r106 h105 => (hK h105 x2 = 11 ∧ C_X12_couldBe x2  h105 (fun r108 h107 => ((r106 = r108 → (((-2147483648 : Int) ≤ x3 + 4 ∧ x3 + 4 ≤ (2147483647 : Int)) ∧ (P18 (x3 + 4) h107))) ∧ (¬ r106 = r108 → (Q 0 h107)))))))) ∧ (zAnd (hI h 1 x3) 63 = 28 → (hK h x1 = 10 ∧ C_X11_ask x1  h (fun r110 h109 => (hK h109 x2 = 11 ∧ C_X12_ask x2  h109 (fun r112 h111 => ((r110 = r112 → (((-2147483648 : Int) ≤ x3 + 4 ∧ x3 + 4 ≤ (2147483647 : Int)) ∧ (P18 (x3 + 4) h111))) ∧ (¬ r110 = r112 → (Q 0 h111)))))))) ∧ (zAnd (hI h 1 x3) 63 = 29 → (((-2147483648 : Int) ≤ x3 + 1 ∧ x3 + 1 ≤ (2147483647 : Int)) ∧ (((0 : Int) ≤ x3 + 1 ∧ x3 + 1 < hL h 1) ∧ (((-2147483648 : Int) ≤ x3 + 2 ∧ x3 + 2 ≤ (2147483647 : Int)) ∧ (((0 : Int) ≤ x3 + 2 ∧ x3 + 2 < hL h 1) ∧ (hK h x1 = 10 ∧ C_X11_write x1 (hI h 1 (x3 + 1)) (hI h 1 (x3 + 2)) h (fun r114 h113 => (((-2147483648 : Int) ≤ x3 + 1 ∧ x3 + 1 ≤ (2147483647 : Int)) ∧ (((0 : Int) ≤ x3 + 1 ∧ x3 + 1 < hL h113 1) ∧ (((-2147483648 : Int) ≤ x3 + 2 ∧ x3 + 2 ≤ (2147483647 : Int)) ∧ (((0 : Int) ≤ x3 + 2 ∧ x3 + 2 < hL h113 1) ∧ (hK h113 x2 = 11 ∧ C_X12_write x2 (hI h113 1 (x3 + 1)) (hI h113 1 (x3 + 2)) h113 (fun r116 h115 => ((r114 = r116 → (((-2147483648 : Int) ≤ x3 + 4 ∧ x3 + 4 ≤ (2147483647 : Int)) ∧ (P18 (x3 + 4) h115))) ∧ (¬ r114 = r116 → (Q 0 h115)))))))))))))))) ∧ (zAnd (hI h 1 x3) 63 = 30 → (hK h x1 = 10 ∧ C_X11_judge x1  h (fun r118 h117 => (hK h117 x2 = 11 ∧ C_X12_judge x2  h117 (fun r120 h119 => ((r118 = r120 → (((-2147483648 : Int) ≤ x3 + 4 ∧ x3 + 4 ≤ (2147483647 : Int)) ∧ (P18 (x3 + 4) h119))) ∧ (¬ r118 = r120 → (Q 0 h119)))))))) ∧ (zAnd (hI h 1 x3) 63 = 31 → (hK h x1 = 10 ∧ C_X11_tear x1  h (fun r122 h121 => (hK h121 x2 = 11 ∧ C_X12_tear x2  h121 (fun r124 h123 => ((r122 = r124 → (((-2147483648 : Int) ≤ x3 + 4 ∧ x3 + 4 ≤ (2147483647 : Int)) ∧ (P18 (x3 + 4) h123))) ∧ (¬ r122 = r124 → (Q 0 h123)))))))) ∧ (zAnd (hI h 1 x3) 63 = 32 → (((-2147483648 : Int) ≤ x3 + 1 ∧ x3 + 1 ≤ (2147483647 : Int)) ∧ (((0 : Int) ≤ x3 + 1 ∧ x3 + 1 < hL h 1) ∧ (hK h x1 = 10 ∧ C_X11_seed x1 (hI h 1 (x3 + 1)) h (fun r126 h125 => (((-2147483648 : Int) ≤ x3 + 1 ∧ x3 + 1 ≤ (2147483647 : Int)) ∧ (((0 : Int) ≤ x3 + 1 ∧ x3 + 1 < hL h125 1) ∧ (hK h125 x2 = 11 ∧ C_X12_seed x2 (hI h125 1 (x3 + 1)) h125 (fun r128 h127 => ((r126 = r128 → (((-2147483648 : Int) ≤ x3 + 4 ∧ x3 + 4 ≤ (2147483647 : Int)) ∧ (P18 (x3 + 4) h127))) ∧ (¬ r126 = r128 → (Q 0 h127)))))))))))) ∧ (zAnd (hI h 1 x3) 63 = 33 → (((-2147483648 : Int) ≤ x3 + 1 ∧ x3 + 1 ≤ (2147483647 : Int)) ∧ (((0 : Int) ≤ x3 + 1 ∧ x3 + 1 < hL h 1) ∧ (hK h x1 = 10 ∧ C_X11_keep x1 (hI h 1 (x3 + 1)) h (fun r130 h129 => (((-2147483648 : Int) ≤ x3 + 1 ∧ x3 + 1 ≤ (2147483647 : Int)) ∧ (((0 : Int) ≤ x3 + 1 ∧ x3 + 1 < hL h129 1) ∧ (hK h129 x2 = 11 ∧ C_X12_keep x2 (hI h129 1 (x3 + 1)) h129 (fun r132 h131 => ((r130 = r132 → (((-2147483648 : Int) ≤ x3 + 4 ∧ x3 + 4 ≤ (2147483647 : Int)) ∧ (P18 (x3 + 4) h131))) ∧ (¬ r130 = r132 → (Q 0 h131)))))))))))) ∧ (zAnd (hI h 1 x3) 63 = 34 → (((-2147483648 : Int) ≤ x3 + 1 ∧ x3 + 1 ≤ (2147483647 : Int)) ∧ (((0 : Int) ≤ x3 + 1 ∧ x3 + 1 < hL h 1) ∧ (hK h x1 = 10 ∧ C_X11_goBack x1 (hI h 1 (x3 + 1)) h (fun r134 h133 => (((-2147483648 : Int) ≤ x3 + 1 ∧ x3 + 1 ≤ (2147483647 : Int)) ∧ (((0 : Int) ≤ x3 + 1 ∧ x3 + 1 < hL h133 1) ∧ (hK h133 x2 = 11 ∧ C_X12_goBack x2 (hI h133 1 (x3 + 1)) h133 (fun r136 h135 => ((r134 = r136 → (((-2147483648 : Int) ≤ x3 + 4 ∧ x3 + 4 ≤ (2147483647 : Int)) ∧ (P18 (x3 + 4) h135))) ∧ (¬ r134 = r136 → (Q 0 h135))))))))))))))))
def Lp_L_law_18 (x1 : Nat) (x2 : Nat) (x3 : Int) (h : Hp) (Q : Int → Hp → Prop) : Prop := ∀ P18 : Int → Hp → Prop, (∀ (x3 : Int) (h : Hp), BLp_L_law_18 x1 x2 P18 x3 h Q → P18 x3 h) → P18 x3 h
theorem Lp_L_law_18_ind {x1 : Nat} {x2 : Nat} {Q : Int → Hp → Prop} (I : Int → Hp → Prop) (μ : Int → Hp → Nat) (hs : ∀ (P18 : Int → Hp → Prop) (x3 : Int) (h : Hp), I x3 h → (∀ (x3' : Int) (h' : Hp), I x3' h' → μ x3' h' < μ x3 h → P18 x3' h') → BLp_L_law_18 x1 x2 P18 x3 h Q) : ∀ (x3 : Int) (h : Hp), I x3 h → Lp_L_law_18 x1 x2 x3 h Q := by
  intro x3 h hI P18 hP
  have key : ∀ (n : Nat) (x3 : Int) (h : Hp), I x3 h → μ x3 h < n → P18 x3 h := by
    intro n
    induction n with
    | zero => intro x3 h _ hl; exact absurd hl (Nat.not_lt_zero _)
    | succ n ih => intro x3 h hi hl; exact hP x3 h (hs P18 x3 h hi (fun x3 h' hi' hl' => ih x3 h' hi' (by omega)))
  exact key _ x3 h hI (Nat.lt_succ_self _)
theorem GLp_L_law_18 (x1 : Nat) (x2 : Nat) (x3 : Int) (h : Hp) (Q : Int → Hp → Prop) (hV : Lp_L_law_18 x1 x2 x3 h Q) : Go i_L_law 18 [(0, .inr (.inr 1)), (1, .inr (.inr x1)), (2, .inr (.inr x2)), (3, .inl x3)] [] h (qI Q) := by
  refine hV (fun x3 h => Go i_L_law 18 [(0, .inr (.inr 1)), (1, .inr (.inr x1)), (2, .inr (.inr x2)), (3, .inl x3)] [] h (qI Q)) (fun x3 h hV => ?_)
  unfold BLp_L_law_18 at hV
  have hP18 : ∀ (x3 : Int) (h : Hp), Go i_L_law 18 [(0, .inr (.inr 1)), (1, .inr (.inr x1)), (2, .inr (.inr x2)), (3, .inl x3)] [] h (qI Q) → Go i_L_law 18 [(0, .inr (.inr 1)), (1, .inr (.inr x1)), (2, .inr (.inr x2)), (3, .inl x3)] [] h (qI Q) := fun _ h z => z
  refine s_iload_n d_L_law_18 rfl (ma 3 rfl) ?_
  refine s_aload_n d_L_law_19 rfl (ma 0 rfl) ?_
  refine s_slen d_L_law_20 ?_
  refine s_iconst d_L_law_21 (okn rfl) ?_
  obtain ⟨o, hV⟩ := hV
  refine s_isub d_L_law_22 o ?_
  refine s_icmp_gt (tgt := 1065) d_L_law_23 (by decide) (fun c => ?_) (fun c => ?_)
  · have hV := hV.1 c
    refine s_iconst d_L_law_1065 (okn rfl) ?_
    exact s_iret d_L_law_1066 rfl (nar_z (Or.inr rfl)) ⟨_, rfl, hV⟩
  · have hV := hV.2 c
    refine s_aload_n d_L_law_26 rfl (ma 0 rfl) ?_
    refine s_iload_n d_L_law_27 rfl (ma 3 rfl) ?_
    obtain ⟨o, hV⟩ := hV
    refine s_sld d_L_law_28 o.1 o.2 ?_
    refine s_bipush d_L_law_29 (by decide) (okn rfl) ?_
    refine s_iand d_L_law_31 ?_
    by_cases c : zAnd (hI h 1 x3) 63 < 0 ∨ 34 < zAnd (hI h 1 x3) 63
    · have hV := hV.1 c
      refine s_tswOut (tgt := 1059) d_L_law_32 c (by decide) ?_
      obtain ⟨o, hV⟩ := hV
      refine s_iinc (lv' := [(3, .inl (x3 + 4)), (0, .inr (.inr 1)), (1, .inr (.inr x1)), (2, .inr (.inr x2))]) d_L_law_1059 (ma 3 rfl) o (Nat.le_of_ble_eq_true rfl) rfl ?_
      refine s_goto (tgt := 18) d_L_law_1062 (by decide) ?_
      refine s_pick (lv' := [(0, .inr (.inr 1)), (1, .inr (.inr x1)), (2, .inr (.inr x2)), (3, .inl (x3 + 4))]) [1, 2, 3, 0] rfl ?_
      exact hP18 _ _ hV
    · have hV := hV.2
      have w1 : ¬ zAnd (hI h 1 x3) 63 < 0 := fun z => c (Or.inl z)
      have w2 : ¬ 34 < zAnd (hI h 1 x3) 63 := fun z => c (Or.inr z)
      have g0 : (0 : Int) ≤ zAnd (hI h 1 x3) 63 := Int.not_lt.mp w1
      by_cases c0 : zAnd (hI h 1 x3) 63 = 0
      · have hV := hV.1 c0
        refine s_tswIn (tgt := 188) d_L_law_32 w1 w2 (by rw [c0]; try rfl) (by decide) ?_
        refine s_aload_n d_L_law_188 rfl (ma 1 rfl) ?_
        refine s_aload_n d_L_law_189 rfl (ma 0 rfl) ?_
        refine s_iload_n d_L_law_190 rfl (ma 3 rfl) ?_
        refine s_iconst d_L_law_191 (okn rfl) ?_
        obtain ⟨o, hV⟩ := hV
        refine s_iadd d_L_law_192 o ?_
        obtain ⟨o, hV⟩ := hV
        refine s_sld d_L_law_193 o.1 o.2 ?_
        obtain ⟨o, hV⟩ := hV
        refine v_RL_13 rfl (Nat.le_of_ble_eq_true rfl) d_L_law_194 o (Nat.le_of_ble_eq_true rfl) hV (fun r2 h1 hV => ?_)
        refine s_aload_n d_L_law_197 rfl (ma 2 rfl) ?_
        refine s_aload_n d_L_law_198 rfl (ma 0 rfl) ?_
        refine s_iload_n d_L_law_199 rfl (ma 3 rfl) ?_
        refine s_iconst d_L_law_200 (okn rfl) ?_
        obtain ⟨o, hV⟩ := hV
        refine s_iadd d_L_law_201 o ?_
        obtain ⟨o, hV⟩ := hV
        refine s_sld d_L_law_202 o.1 o.2 ?_
        obtain ⟨o, hV⟩ := hV
        refine v_RL_17 rfl (Nat.le_of_ble_eq_true rfl) d_L_law_203 o (Nat.le_of_ble_eq_true rfl) hV (fun r4 h3 hV => ?_)
        refine s_icmp_eq (tgt := 1059) d_L_law_206 (by decide) (fun c => ?_) (fun c => ?_)
        · have hV := hV.1 c
          obtain ⟨o, hV⟩ := hV
          refine s_iinc (lv' := [(3, .inl (x3 + 4)), (0, .inr (.inr 1)), (1, .inr (.inr x1)), (2, .inr (.inr x2))]) d_L_law_1059 (ma 3 rfl) o (Nat.le_of_ble_eq_true rfl) rfl ?_
          refine s_goto (tgt := 18) d_L_law_1062 (by decide) ?_
          refine s_pick (lv' := [(0, .inr (.inr 1)), (1, .inr (.inr x1)), (2, .inr (.inr x2)), (3, .inl (x3 + 4))]) [1, 2, 3, 0] rfl ?_
          exact hP18 _ _ hV
        · have hV := hV.2 c
          refine s_iconst d_L_law_209 (okn rfl) ?_
          exact s_iret d_L_law_210 rfl (nar_z (Or.inl rfl)) ⟨_, rfl, hV⟩
      have hV := hV.2
      have g1 : (1 : Int) ≤ zAnd (hI h 1 x3) 63 := Int.lt_iff_le_and_ne.mpr ⟨g0, fun z => c0 z.symm⟩
      clear c0 g0
      by_cases c1 : zAnd (hI h 1 x3) 63 = 1
      · have hV := hV.1 c1
        refine s_tswIn (tgt := 211) d_L_law_32 w1 w2 (by rw [c1]; try rfl) (by decide) ?_
        refine s_aload_n d_L_law_211 rfl (ma 1 rfl) ?_
        obtain ⟨o, hV⟩ := hV
        refine v_RL_18 rfl (Nat.le_of_ble_eq_true rfl) d_L_law_212 o (Nat.le_of_ble_eq_true rfl) hV (fun r6 h5 hV => ?_)
        refine s_aload_n d_L_law_215 rfl (ma 2 rfl) ?_
        obtain ⟨o, hV⟩ := hV
        refine v_RL_22 rfl (Nat.le_of_ble_eq_true rfl) d_L_law_216 o (Nat.le_of_ble_eq_true rfl) hV (fun r8 h7 hV => ?_)
        refine s_icmp_eq (tgt := 1059) d_L_law_219 (by decide) (fun c => ?_) (fun c => ?_)
        · have hV := hV.1 c
          obtain ⟨o, hV⟩ := hV
          refine s_iinc (lv' := [(3, .inl (x3 + 4)), (0, .inr (.inr 1)), (1, .inr (.inr x1)), (2, .inr (.inr x2))]) d_L_law_1059 (ma 3 rfl) o (Nat.le_of_ble_eq_true rfl) rfl ?_
          refine s_goto (tgt := 18) d_L_law_1062 (by decide) ?_
          refine s_pick (lv' := [(0, .inr (.inr 1)), (1, .inr (.inr x1)), (2, .inr (.inr x2)), (3, .inl (x3 + 4))]) [1, 2, 3, 0] rfl ?_
          exact hP18 _ _ hV
        · have hV := hV.2 c
          refine s_iconst d_L_law_222 (okn rfl) ?_
          exact s_iret d_L_law_223 rfl (nar_z (Or.inl rfl)) ⟨_, rfl, hV⟩
      have hV := hV.2
      have g2 : (2 : Int) ≤ zAnd (hI h 1 x3) 63 := Int.lt_iff_le_and_ne.mpr ⟨g1, fun z => c1 z.symm⟩
      clear c1 g1
      by_cases c2 : zAnd (hI h 1 x3) 63 = 2
      · have hV := hV.1 c2
        refine s_tswIn (tgt := 224) d_L_law_32 w1 w2 (by rw [c2]; try rfl) (by decide) ?_
        refine s_aload_n d_L_law_224 rfl (ma 1 rfl) ?_
        obtain ⟨o, hV⟩ := hV
        refine v_RL_23 rfl (Nat.le_of_ble_eq_true rfl) d_L_law_225 o (Nat.le_of_ble_eq_true rfl) hV (fun r10 h9 hV => ?_)
        refine s_aload_n d_L_law_228 rfl (ma 2 rfl) ?_
        obtain ⟨o, hV⟩ := hV
        refine v_RL_26 rfl (Nat.le_of_ble_eq_true rfl) d_L_law_229 o (Nat.le_of_ble_eq_true rfl) hV (fun r12 h11 hV => ?_)
        refine s_icmp_eq (tgt := 1059) d_L_law_232 (by decide) (fun c => ?_) (fun c => ?_)
        · have hV := hV.1 c
          obtain ⟨o, hV⟩ := hV
          refine s_iinc (lv' := [(3, .inl (x3 + 4)), (0, .inr (.inr 1)), (1, .inr (.inr x1)), (2, .inr (.inr x2))]) d_L_law_1059 (ma 3 rfl) o (Nat.le_of_ble_eq_true rfl) rfl ?_
          refine s_goto (tgt := 18) d_L_law_1062 (by decide) ?_
          refine s_pick (lv' := [(0, .inr (.inr 1)), (1, .inr (.inr x1)), (2, .inr (.inr x2)), (3, .inl (x3 + 4))]) [1, 2, 3, 0] rfl ?_
          exact hP18 _ _ hV
        · have hV := hV.2 c
          refine s_iconst d_L_law_235 (okn rfl) ?_
          exact s_iret d_L_law_236 rfl (nar_z (Or.inl rfl)) ⟨_, rfl, hV⟩
      have hV := hV.2
      have g3 : (3 : Int) ≤ zAnd (hI h 1 x3) 63 := Int.lt_iff_le_and_ne.mpr ⟨g2, fun z => c2 z.symm⟩
      clear c2 g2
      by_cases c3 : zAnd (hI h 1 x3) 63 = 3
      · have hV := hV.1 c3
        refine s_tswIn (tgt := 237) d_L_law_32 w1 w2 (by rw [c3]; try rfl) (by decide) ?_
        refine s_aload_n d_L_law_237 rfl (ma 1 rfl) ?_
        refine s_aload_n d_L_law_238 rfl (ma 0 rfl) ?_
        refine s_iload_n d_L_law_239 rfl (ma 3 rfl) ?_
        refine s_iconst d_L_law_240 (okn rfl) ?_
        obtain ⟨o, hV⟩ := hV
        refine s_iadd d_L_law_241 o ?_
        obtain ⟨o, hV⟩ := hV
        refine s_sld d_L_law_242 o.1 o.2 ?_
        obtain ⟨o, hV⟩ := hV
        refine v_RL_27 rfl (Nat.le_of_ble_eq_true rfl) d_L_law_243 o (Nat.le_of_ble_eq_true rfl) hV (fun r14 h13 hV => ?_)
        refine s_aload_n d_L_law_246 rfl (ma 2 rfl) ?_
        refine s_aload_n d_L_law_247 rfl (ma 0 rfl) ?_
        refine s_iload_n d_L_law_248 rfl (ma 3 rfl) ?_
        refine s_iconst d_L_law_249 (okn rfl) ?_
        obtain ⟨o, hV⟩ := hV
        refine s_iadd d_L_law_250 o ?_
        obtain ⟨o, hV⟩ := hV
        refine s_sld d_L_law_251 o.1 o.2 ?_
        obtain ⟨o, hV⟩ := hV
        refine v_RL_30 rfl (Nat.le_of_ble_eq_true rfl) d_L_law_252 o (Nat.le_of_ble_eq_true rfl) hV (fun r16 h15 hV => ?_)
        refine s_icmp_eq (tgt := 1059) d_L_law_255 (by decide) (fun c => ?_) (fun c => ?_)
        · have hV := hV.1 c
          obtain ⟨o, hV⟩ := hV
          refine s_iinc (lv' := [(3, .inl (x3 + 4)), (0, .inr (.inr 1)), (1, .inr (.inr x1)), (2, .inr (.inr x2))]) d_L_law_1059 (ma 3 rfl) o (Nat.le_of_ble_eq_true rfl) rfl ?_
          refine s_goto (tgt := 18) d_L_law_1062 (by decide) ?_
          refine s_pick (lv' := [(0, .inr (.inr 1)), (1, .inr (.inr x1)), (2, .inr (.inr x2)), (3, .inl (x3 + 4))]) [1, 2, 3, 0] rfl ?_
          exact hP18 _ _ hV
        · have hV := hV.2 c
          refine s_iconst d_L_law_258 (okn rfl) ?_
          exact s_iret d_L_law_259 rfl (nar_z (Or.inl rfl)) ⟨_, rfl, hV⟩
      have hV := hV.2
      have g4 : (4 : Int) ≤ zAnd (hI h 1 x3) 63 := Int.lt_iff_le_and_ne.mpr ⟨g3, fun z => c3 z.symm⟩
      clear c3 g3
      by_cases c4 : zAnd (hI h 1 x3) 63 = 4
      · have hV := hV.1 c4
        refine s_tswIn (tgt := 260) d_L_law_32 w1 w2 (by rw [c4]; try rfl) (by decide) ?_
        refine s_aload_n d_L_law_260 rfl (ma 1 rfl) ?_
        refine s_aload_n d_L_law_261 rfl (ma 0 rfl) ?_
        refine s_iload_n d_L_law_262 rfl (ma 3 rfl) ?_
        refine s_iconst d_L_law_263 (okn rfl) ?_
        obtain ⟨o, hV⟩ := hV
        refine s_iadd d_L_law_264 o ?_
        obtain ⟨o, hV⟩ := hV
        refine s_sld d_L_law_265 o.1 o.2 ?_
        obtain ⟨o, hV⟩ := hV
        refine v_RL_31 rfl (Nat.le_of_ble_eq_true rfl) d_L_law_266 o (Nat.le_of_ble_eq_true rfl) hV (fun r18 h17 hV => ?_)
        refine s_aload_n d_L_law_269 rfl (ma 2 rfl) ?_
        refine s_aload_n d_L_law_270 rfl (ma 0 rfl) ?_
        refine s_iload_n d_L_law_271 rfl (ma 3 rfl) ?_
        refine s_iconst d_L_law_272 (okn rfl) ?_
        obtain ⟨o, hV⟩ := hV
        refine s_iadd d_L_law_273 o ?_
        obtain ⟨o, hV⟩ := hV
        refine s_sld d_L_law_274 o.1 o.2 ?_
        obtain ⟨o, hV⟩ := hV
        refine v_RL_34 rfl (Nat.le_of_ble_eq_true rfl) d_L_law_275 o (Nat.le_of_ble_eq_true rfl) hV (fun r20 h19 hV => ?_)
        refine s_icmp_eq (tgt := 1059) d_L_law_278 (by decide) (fun c => ?_) (fun c => ?_)
        · have hV := hV.1 c
          obtain ⟨o, hV⟩ := hV
          refine s_iinc (lv' := [(3, .inl (x3 + 4)), (0, .inr (.inr 1)), (1, .inr (.inr x1)), (2, .inr (.inr x2))]) d_L_law_1059 (ma 3 rfl) o (Nat.le_of_ble_eq_true rfl) rfl ?_
          refine s_goto (tgt := 18) d_L_law_1062 (by decide) ?_
          refine s_pick (lv' := [(0, .inr (.inr 1)), (1, .inr (.inr x1)), (2, .inr (.inr x2)), (3, .inl (x3 + 4))]) [1, 2, 3, 0] rfl ?_
          exact hP18 _ _ hV
        · have hV := hV.2 c
          refine s_iconst d_L_law_281 (okn rfl) ?_
          exact s_iret d_L_law_282 rfl (nar_z (Or.inl rfl)) ⟨_, rfl, hV⟩
      have hV := hV.2
      have g5 : (5 : Int) ≤ zAnd (hI h 1 x3) 63 := Int.lt_iff_le_and_ne.mpr ⟨g4, fun z => c4 z.symm⟩
      clear c4 g4
      by_cases c5 : zAnd (hI h 1 x3) 63 = 5
      · have hV := hV.1 c5
        refine s_tswIn (tgt := 283) d_L_law_32 w1 w2 (by rw [c5]; try rfl) (by decide) ?_
        refine s_aload_n d_L_law_283 rfl (ma 1 rfl) ?_
        refine s_aload_n d_L_law_284 rfl (ma 0 rfl) ?_
        refine s_iload_n d_L_law_285 rfl (ma 3 rfl) ?_
        refine s_iconst d_L_law_286 (okn rfl) ?_
        obtain ⟨o, hV⟩ := hV
        refine s_iadd d_L_law_287 o ?_
        obtain ⟨o, hV⟩ := hV
        refine s_sld d_L_law_288 o.1 o.2 ?_
        refine s_aload_n d_L_law_289 rfl (ma 0 rfl) ?_
        refine s_iload_n d_L_law_290 rfl (ma 3 rfl) ?_
        refine s_iconst d_L_law_291 (okn rfl) ?_
        obtain ⟨o, hV⟩ := hV
        refine s_iadd d_L_law_292 o ?_
        obtain ⟨o, hV⟩ := hV
        refine s_sld d_L_law_293 o.1 o.2 ?_
        obtain ⟨o, hV⟩ := hV
        refine v_RL_35 rfl (Nat.le_of_ble_eq_true rfl) d_L_law_294 o (Nat.le_of_ble_eq_true rfl) hV (fun r22 h21 hV => ?_)
        refine s_aload_n d_L_law_297 rfl (ma 2 rfl) ?_
        refine s_aload_n d_L_law_298 rfl (ma 0 rfl) ?_
        refine s_iload_n d_L_law_299 rfl (ma 3 rfl) ?_
        refine s_iconst d_L_law_300 (okn rfl) ?_
        obtain ⟨o, hV⟩ := hV
        refine s_iadd d_L_law_301 o ?_
        obtain ⟨o, hV⟩ := hV
        refine s_sld d_L_law_302 o.1 o.2 ?_
        refine s_aload_n d_L_law_303 rfl (ma 0 rfl) ?_
        refine s_iload_n d_L_law_304 rfl (ma 3 rfl) ?_
        refine s_iconst d_L_law_305 (okn rfl) ?_
        obtain ⟨o, hV⟩ := hV
        refine s_iadd d_L_law_306 o ?_
        obtain ⟨o, hV⟩ := hV
        refine s_sld d_L_law_307 o.1 o.2 ?_
        obtain ⟨o, hV⟩ := hV
        refine v_RL_39 rfl (Nat.le_of_ble_eq_true rfl) d_L_law_308 o (Nat.le_of_ble_eq_true rfl) hV (fun r24 h23 hV => ?_)
        refine s_icmp_eq (tgt := 1059) d_L_law_311 (by decide) (fun c => ?_) (fun c => ?_)
        · have hV := hV.1 c
          obtain ⟨o, hV⟩ := hV
          refine s_iinc (lv' := [(3, .inl (x3 + 4)), (0, .inr (.inr 1)), (1, .inr (.inr x1)), (2, .inr (.inr x2))]) d_L_law_1059 (ma 3 rfl) o (Nat.le_of_ble_eq_true rfl) rfl ?_
          refine s_goto (tgt := 18) d_L_law_1062 (by decide) ?_
          refine s_pick (lv' := [(0, .inr (.inr 1)), (1, .inr (.inr x1)), (2, .inr (.inr x2)), (3, .inl (x3 + 4))]) [1, 2, 3, 0] rfl ?_
          exact hP18 _ _ hV
        · have hV := hV.2 c
          refine s_iconst d_L_law_314 (okn rfl) ?_
          exact s_iret d_L_law_315 rfl (nar_z (Or.inl rfl)) ⟨_, rfl, hV⟩
      have hV := hV.2
      have g6 : (6 : Int) ≤ zAnd (hI h 1 x3) 63 := Int.lt_iff_le_and_ne.mpr ⟨g5, fun z => c5 z.symm⟩
      clear c5 g5
      by_cases c6 : zAnd (hI h 1 x3) 63 = 6
      · have hV := hV.1 c6
        refine s_tswIn (tgt := 316) d_L_law_32 w1 w2 (by rw [c6]; try rfl) (by decide) ?_
        refine s_aload_n d_L_law_316 rfl (ma 1 rfl) ?_
        refine s_aload_n d_L_law_317 rfl (ma 0 rfl) ?_
        refine s_iload_n d_L_law_318 rfl (ma 3 rfl) ?_
        refine s_iconst d_L_law_319 (okn rfl) ?_
        obtain ⟨o, hV⟩ := hV
        refine s_iadd d_L_law_320 o ?_
        obtain ⟨o, hV⟩ := hV
        refine s_sld d_L_law_321 o.1 o.2 ?_
        refine s_aload_n d_L_law_322 rfl (ma 0 rfl) ?_
        refine s_iload_n d_L_law_323 rfl (ma 3 rfl) ?_
        refine s_iconst d_L_law_324 (okn rfl) ?_
        obtain ⟨o, hV⟩ := hV
        refine s_iadd d_L_law_325 o ?_
        obtain ⟨o, hV⟩ := hV
        refine s_sld d_L_law_326 o.1 o.2 ?_
        obtain ⟨o, hV⟩ := hV
        refine v_RL_40 rfl (Nat.le_of_ble_eq_true rfl) d_L_law_327 o (Nat.le_of_ble_eq_true rfl) hV (fun r26 h25 hV => ?_)
        refine s_aload_n d_L_law_330 rfl (ma 2 rfl) ?_
        refine s_aload_n d_L_law_331 rfl (ma 0 rfl) ?_
        refine s_iload_n d_L_law_332 rfl (ma 3 rfl) ?_
        refine s_iconst d_L_law_333 (okn rfl) ?_
        obtain ⟨o, hV⟩ := hV
        refine s_iadd d_L_law_334 o ?_
        obtain ⟨o, hV⟩ := hV
        refine s_sld d_L_law_335 o.1 o.2 ?_
        refine s_aload_n d_L_law_336 rfl (ma 0 rfl) ?_
        refine s_iload_n d_L_law_337 rfl (ma 3 rfl) ?_
        refine s_iconst d_L_law_338 (okn rfl) ?_
        obtain ⟨o, hV⟩ := hV
        refine s_iadd d_L_law_339 o ?_
        obtain ⟨o, hV⟩ := hV
        refine s_sld d_L_law_340 o.1 o.2 ?_
        obtain ⟨o, hV⟩ := hV
        refine v_RL_43 rfl (Nat.le_of_ble_eq_true rfl) d_L_law_341 o (Nat.le_of_ble_eq_true rfl) hV (fun r28 h27 hV => ?_)
        refine s_icmp_eq (tgt := 1059) d_L_law_344 (by decide) (fun c => ?_) (fun c => ?_)
        · have hV := hV.1 c
          obtain ⟨o, hV⟩ := hV
          refine s_iinc (lv' := [(3, .inl (x3 + 4)), (0, .inr (.inr 1)), (1, .inr (.inr x1)), (2, .inr (.inr x2))]) d_L_law_1059 (ma 3 rfl) o (Nat.le_of_ble_eq_true rfl) rfl ?_
          refine s_goto (tgt := 18) d_L_law_1062 (by decide) ?_
          refine s_pick (lv' := [(0, .inr (.inr 1)), (1, .inr (.inr x1)), (2, .inr (.inr x2)), (3, .inl (x3 + 4))]) [1, 2, 3, 0] rfl ?_
          exact hP18 _ _ hV
        · have hV := hV.2 c
          refine s_iconst d_L_law_347 (okn rfl) ?_
          exact s_iret d_L_law_348 rfl (nar_z (Or.inl rfl)) ⟨_, rfl, hV⟩
      have hV := hV.2
      have g7 : (7 : Int) ≤ zAnd (hI h 1 x3) 63 := Int.lt_iff_le_and_ne.mpr ⟨g6, fun z => c6 z.symm⟩
      clear c6 g6
      by_cases c7 : zAnd (hI h 1 x3) 63 = 7
      · have hV := hV.1 c7
        refine s_tswIn (tgt := 349) d_L_law_32 w1 w2 (by rw [c7]; try rfl) (by decide) ?_
        refine s_aload_n d_L_law_349 rfl (ma 1 rfl) ?_
        refine s_aload_n d_L_law_350 rfl (ma 0 rfl) ?_
        refine s_iload_n d_L_law_351 rfl (ma 3 rfl) ?_
        refine s_iconst d_L_law_352 (okn rfl) ?_
        obtain ⟨o, hV⟩ := hV
        refine s_iadd d_L_law_353 o ?_
        obtain ⟨o, hV⟩ := hV
        refine s_sld d_L_law_354 o.1 o.2 ?_
        obtain ⟨o, hV⟩ := hV
        refine v_RL_44 rfl (Nat.le_of_ble_eq_true rfl) d_L_law_355 o (Nat.le_of_ble_eq_true rfl) hV (fun r30 h29 hV => ?_)
        refine s_aload_n d_L_law_358 rfl (ma 2 rfl) ?_
        refine s_aload_n d_L_law_359 rfl (ma 0 rfl) ?_
        refine s_iload_n d_L_law_360 rfl (ma 3 rfl) ?_
        refine s_iconst d_L_law_361 (okn rfl) ?_
        obtain ⟨o, hV⟩ := hV
        refine s_iadd d_L_law_362 o ?_
        obtain ⟨o, hV⟩ := hV
        refine s_sld d_L_law_363 o.1 o.2 ?_
        obtain ⟨o, hV⟩ := hV
        refine v_RL_47 rfl (Nat.le_of_ble_eq_true rfl) d_L_law_364 o (Nat.le_of_ble_eq_true rfl) hV (fun r32 h31 hV => ?_)
        refine s_icmp_eq (tgt := 1059) d_L_law_367 (by decide) (fun c => ?_) (fun c => ?_)
        · have hV := hV.1 c
          obtain ⟨o, hV⟩ := hV
          refine s_iinc (lv' := [(3, .inl (x3 + 4)), (0, .inr (.inr 1)), (1, .inr (.inr x1)), (2, .inr (.inr x2))]) d_L_law_1059 (ma 3 rfl) o (Nat.le_of_ble_eq_true rfl) rfl ?_
          refine s_goto (tgt := 18) d_L_law_1062 (by decide) ?_
          refine s_pick (lv' := [(0, .inr (.inr 1)), (1, .inr (.inr x1)), (2, .inr (.inr x2)), (3, .inl (x3 + 4))]) [1, 2, 3, 0] rfl ?_
          exact hP18 _ _ hV
        · have hV := hV.2 c
          refine s_iconst d_L_law_370 (okn rfl) ?_
          exact s_iret d_L_law_371 rfl (nar_z (Or.inl rfl)) ⟨_, rfl, hV⟩
      have hV := hV.2
      have g8 : (8 : Int) ≤ zAnd (hI h 1 x3) 63 := Int.lt_iff_le_and_ne.mpr ⟨g7, fun z => c7 z.symm⟩
      clear c7 g7
      by_cases c8 : zAnd (hI h 1 x3) 63 = 8
      · have hV := hV.1 c8
        refine s_tswIn (tgt := 372) d_L_law_32 w1 w2 (by rw [c8]; try rfl) (by decide) ?_
        refine s_aload_n d_L_law_372 rfl (ma 1 rfl) ?_
        obtain ⟨o, hV⟩ := hV
        refine v_RL_48 rfl (Nat.le_of_ble_eq_true rfl) d_L_law_373 o (Nat.le_of_ble_eq_true rfl) hV (fun r34 h33 hV => ?_)
        refine s_aload_n d_L_law_376 rfl (ma 2 rfl) ?_
        obtain ⟨o, hV⟩ := hV
        refine v_RL_51 rfl (Nat.le_of_ble_eq_true rfl) d_L_law_377 o (Nat.le_of_ble_eq_true rfl) hV (fun r36 h35 hV => ?_)
        refine s_icmp_eq (tgt := 1059) d_L_law_380 (by decide) (fun c => ?_) (fun c => ?_)
        · have hV := hV.1 c
          obtain ⟨o, hV⟩ := hV
          refine s_iinc (lv' := [(3, .inl (x3 + 4)), (0, .inr (.inr 1)), (1, .inr (.inr x1)), (2, .inr (.inr x2))]) d_L_law_1059 (ma 3 rfl) o (Nat.le_of_ble_eq_true rfl) rfl ?_
          refine s_goto (tgt := 18) d_L_law_1062 (by decide) ?_
          refine s_pick (lv' := [(0, .inr (.inr 1)), (1, .inr (.inr x1)), (2, .inr (.inr x2)), (3, .inl (x3 + 4))]) [1, 2, 3, 0] rfl ?_
          exact hP18 _ _ hV
        · have hV := hV.2 c
          refine s_iconst d_L_law_383 (okn rfl) ?_
          exact s_iret d_L_law_384 rfl (nar_z (Or.inl rfl)) ⟨_, rfl, hV⟩
      have hV := hV.2
      have g9 : (9 : Int) ≤ zAnd (hI h 1 x3) 63 := Int.lt_iff_le_and_ne.mpr ⟨g8, fun z => c8 z.symm⟩
      clear c8 g8
      by_cases c9 : zAnd (hI h 1 x3) 63 = 9
      · have hV := hV.1 c9
        refine s_tswIn (tgt := 385) d_L_law_32 w1 w2 (by rw [c9]; try rfl) (by decide) ?_
        refine s_aload_n d_L_law_385 rfl (ma 1 rfl) ?_
        refine s_aload_n d_L_law_386 rfl (ma 0 rfl) ?_
        refine s_iload_n d_L_law_387 rfl (ma 3 rfl) ?_
        refine s_iconst d_L_law_388 (okn rfl) ?_
        obtain ⟨o, hV⟩ := hV
        refine s_iadd d_L_law_389 o ?_
        obtain ⟨o, hV⟩ := hV
        refine s_sld d_L_law_390 o.1 o.2 ?_
        obtain ⟨o, hV⟩ := hV
        refine v_RL_52 rfl (Nat.le_of_ble_eq_true rfl) d_L_law_391 o (Nat.le_of_ble_eq_true rfl) hV (fun r38 h37 hV => ?_)
        refine s_aload_n d_L_law_394 rfl (ma 2 rfl) ?_
        refine s_aload_n d_L_law_395 rfl (ma 0 rfl) ?_
        refine s_iload_n d_L_law_396 rfl (ma 3 rfl) ?_
        refine s_iconst d_L_law_397 (okn rfl) ?_
        obtain ⟨o, hV⟩ := hV
        refine s_iadd d_L_law_398 o ?_
        obtain ⟨o, hV⟩ := hV
        refine s_sld d_L_law_399 o.1 o.2 ?_
        obtain ⟨o, hV⟩ := hV
        refine v_RL_55 rfl (Nat.le_of_ble_eq_true rfl) d_L_law_400 o (Nat.le_of_ble_eq_true rfl) hV (fun r40 h39 hV => ?_)
        refine s_icmp_eq (tgt := 1059) d_L_law_403 (by decide) (fun c => ?_) (fun c => ?_)
        · have hV := hV.1 c
          obtain ⟨o, hV⟩ := hV
          refine s_iinc (lv' := [(3, .inl (x3 + 4)), (0, .inr (.inr 1)), (1, .inr (.inr x1)), (2, .inr (.inr x2))]) d_L_law_1059 (ma 3 rfl) o (Nat.le_of_ble_eq_true rfl) rfl ?_
          refine s_goto (tgt := 18) d_L_law_1062 (by decide) ?_
          refine s_pick (lv' := [(0, .inr (.inr 1)), (1, .inr (.inr x1)), (2, .inr (.inr x2)), (3, .inl (x3 + 4))]) [1, 2, 3, 0] rfl ?_
          exact hP18 _ _ hV
        · have hV := hV.2 c
          refine s_iconst d_L_law_406 (okn rfl) ?_
          exact s_iret d_L_law_407 rfl (nar_z (Or.inl rfl)) ⟨_, rfl, hV⟩
      have hV := hV.2
      have g10 : (10 : Int) ≤ zAnd (hI h 1 x3) 63 := Int.lt_iff_le_and_ne.mpr ⟨g9, fun z => c9 z.symm⟩
      clear c9 g9
      by_cases c10 : zAnd (hI h 1 x3) 63 = 10
      · have hV := hV.1 c10
        refine s_tswIn (tgt := 408) d_L_law_32 w1 w2 (by rw [c10]; try rfl) (by decide) ?_
        refine s_aload_n d_L_law_408 rfl (ma 1 rfl) ?_
        refine s_aload_n d_L_law_409 rfl (ma 0 rfl) ?_
        refine s_iload_n d_L_law_410 rfl (ma 3 rfl) ?_
        refine s_iconst d_L_law_411 (okn rfl) ?_
        obtain ⟨o, hV⟩ := hV
        refine s_iadd d_L_law_412 o ?_
        obtain ⟨o, hV⟩ := hV
        refine s_sld d_L_law_413 o.1 o.2 ?_
        obtain ⟨o, hV⟩ := hV
        refine v_RL_56 rfl (Nat.le_of_ble_eq_true rfl) d_L_law_414 o (Nat.le_of_ble_eq_true rfl) hV (fun r42 h41 hV => ?_)
        refine s_aload_n d_L_law_417 rfl (ma 2 rfl) ?_
        refine s_aload_n d_L_law_418 rfl (ma 0 rfl) ?_
        refine s_iload_n d_L_law_419 rfl (ma 3 rfl) ?_
        refine s_iconst d_L_law_420 (okn rfl) ?_
        obtain ⟨o, hV⟩ := hV
        refine s_iadd d_L_law_421 o ?_
        obtain ⟨o, hV⟩ := hV
        refine s_sld d_L_law_422 o.1 o.2 ?_
        obtain ⟨o, hV⟩ := hV
        refine v_RL_59 rfl (Nat.le_of_ble_eq_true rfl) d_L_law_423 o (Nat.le_of_ble_eq_true rfl) hV (fun r44 h43 hV => ?_)
        refine s_icmp_eq (tgt := 1059) d_L_law_426 (by decide) (fun c => ?_) (fun c => ?_)
        · have hV := hV.1 c
          obtain ⟨o, hV⟩ := hV
          refine s_iinc (lv' := [(3, .inl (x3 + 4)), (0, .inr (.inr 1)), (1, .inr (.inr x1)), (2, .inr (.inr x2))]) d_L_law_1059 (ma 3 rfl) o (Nat.le_of_ble_eq_true rfl) rfl ?_
          refine s_goto (tgt := 18) d_L_law_1062 (by decide) ?_
          refine s_pick (lv' := [(0, .inr (.inr 1)), (1, .inr (.inr x1)), (2, .inr (.inr x2)), (3, .inl (x3 + 4))]) [1, 2, 3, 0] rfl ?_
          exact hP18 _ _ hV
        · have hV := hV.2 c
          refine s_iconst d_L_law_429 (okn rfl) ?_
          exact s_iret d_L_law_430 rfl (nar_z (Or.inl rfl)) ⟨_, rfl, hV⟩
      have hV := hV.2
      have g11 : (11 : Int) ≤ zAnd (hI h 1 x3) 63 := Int.lt_iff_le_and_ne.mpr ⟨g10, fun z => c10 z.symm⟩
      clear c10 g10
      by_cases c11 : zAnd (hI h 1 x3) 63 = 11
      · have hV := hV.1 c11
        refine s_tswIn (tgt := 431) d_L_law_32 w1 w2 (by rw [c11]; try rfl) (by decide) ?_
        refine s_aload_n d_L_law_431 rfl (ma 1 rfl) ?_
        refine s_aload_n d_L_law_432 rfl (ma 0 rfl) ?_
        refine s_iload_n d_L_law_433 rfl (ma 3 rfl) ?_
        refine s_iconst d_L_law_434 (okn rfl) ?_
        obtain ⟨o, hV⟩ := hV
        refine s_iadd d_L_law_435 o ?_
        obtain ⟨o, hV⟩ := hV
        refine s_sld d_L_law_436 o.1 o.2 ?_
        refine s_aload_n d_L_law_437 rfl (ma 0 rfl) ?_
        refine s_iload_n d_L_law_438 rfl (ma 3 rfl) ?_
        refine s_iconst d_L_law_439 (okn rfl) ?_
        obtain ⟨o, hV⟩ := hV
        refine s_iadd d_L_law_440 o ?_
        obtain ⟨o, hV⟩ := hV
        refine s_sld d_L_law_441 o.1 o.2 ?_
        obtain ⟨o, hV⟩ := hV
        refine v_RL_60 rfl (Nat.le_of_ble_eq_true rfl) d_L_law_442 o (Nat.le_of_ble_eq_true rfl) hV (fun r46 h45 hV => ?_)
        refine s_aload_n d_L_law_445 rfl (ma 2 rfl) ?_
        refine s_aload_n d_L_law_446 rfl (ma 0 rfl) ?_
        refine s_iload_n d_L_law_447 rfl (ma 3 rfl) ?_
        refine s_iconst d_L_law_448 (okn rfl) ?_
        obtain ⟨o, hV⟩ := hV
        refine s_iadd d_L_law_449 o ?_
        obtain ⟨o, hV⟩ := hV
        refine s_sld d_L_law_450 o.1 o.2 ?_
        refine s_aload_n d_L_law_451 rfl (ma 0 rfl) ?_
        refine s_iload_n d_L_law_452 rfl (ma 3 rfl) ?_
        refine s_iconst d_L_law_453 (okn rfl) ?_
        obtain ⟨o, hV⟩ := hV
        refine s_iadd d_L_law_454 o ?_
        obtain ⟨o, hV⟩ := hV
        refine s_sld d_L_law_455 o.1 o.2 ?_
        obtain ⟨o, hV⟩ := hV
        refine v_RL_63 rfl (Nat.le_of_ble_eq_true rfl) d_L_law_456 o (Nat.le_of_ble_eq_true rfl) hV (fun r48 h47 hV => ?_)
        refine s_icmp_eq (tgt := 1059) d_L_law_459 (by decide) (fun c => ?_) (fun c => ?_)
        · have hV := hV.1 c
          obtain ⟨o, hV⟩ := hV
          refine s_iinc (lv' := [(3, .inl (x3 + 4)), (0, .inr (.inr 1)), (1, .inr (.inr x1)), (2, .inr (.inr x2))]) d_L_law_1059 (ma 3 rfl) o (Nat.le_of_ble_eq_true rfl) rfl ?_
          refine s_goto (tgt := 18) d_L_law_1062 (by decide) ?_
          refine s_pick (lv' := [(0, .inr (.inr 1)), (1, .inr (.inr x1)), (2, .inr (.inr x2)), (3, .inl (x3 + 4))]) [1, 2, 3, 0] rfl ?_
          exact hP18 _ _ hV
        · have hV := hV.2 c
          refine s_iconst d_L_law_462 (okn rfl) ?_
          exact s_iret d_L_law_463 rfl (nar_z (Or.inl rfl)) ⟨_, rfl, hV⟩
      have hV := hV.2
      have g12 : (12 : Int) ≤ zAnd (hI h 1 x3) 63 := Int.lt_iff_le_and_ne.mpr ⟨g11, fun z => c11 z.symm⟩
      clear c11 g11
      by_cases c12 : zAnd (hI h 1 x3) 63 = 12
      · have hV := hV.1 c12
        refine s_tswIn (tgt := 464) d_L_law_32 w1 w2 (by rw [c12]; try rfl) (by decide) ?_
        refine s_aload_n d_L_law_464 rfl (ma 1 rfl) ?_
        refine s_aload_n d_L_law_465 rfl (ma 0 rfl) ?_
        refine s_iload_n d_L_law_466 rfl (ma 3 rfl) ?_
        refine s_iconst d_L_law_467 (okn rfl) ?_
        obtain ⟨o, hV⟩ := hV
        refine s_iadd d_L_law_468 o ?_
        obtain ⟨o, hV⟩ := hV
        refine s_sld d_L_law_469 o.1 o.2 ?_
        obtain ⟨o, hV⟩ := hV
        refine v_RL_64 rfl (Nat.le_of_ble_eq_true rfl) d_L_law_470 o (Nat.le_of_ble_eq_true rfl) hV (fun r50 h49 hV => ?_)
        refine s_aload_n d_L_law_473 rfl (ma 2 rfl) ?_
        refine s_aload_n d_L_law_474 rfl (ma 0 rfl) ?_
        refine s_iload_n d_L_law_475 rfl (ma 3 rfl) ?_
        refine s_iconst d_L_law_476 (okn rfl) ?_
        obtain ⟨o, hV⟩ := hV
        refine s_iadd d_L_law_477 o ?_
        obtain ⟨o, hV⟩ := hV
        refine s_sld d_L_law_478 o.1 o.2 ?_
        obtain ⟨o, hV⟩ := hV
        refine v_RL_67 rfl (Nat.le_of_ble_eq_true rfl) d_L_law_479 o (Nat.le_of_ble_eq_true rfl) hV (fun r52 h51 hV => ?_)
        refine s_icmp_eq (tgt := 1059) d_L_law_482 (by decide) (fun c => ?_) (fun c => ?_)
        · have hV := hV.1 c
          obtain ⟨o, hV⟩ := hV
          refine s_iinc (lv' := [(3, .inl (x3 + 4)), (0, .inr (.inr 1)), (1, .inr (.inr x1)), (2, .inr (.inr x2))]) d_L_law_1059 (ma 3 rfl) o (Nat.le_of_ble_eq_true rfl) rfl ?_
          refine s_goto (tgt := 18) d_L_law_1062 (by decide) ?_
          refine s_pick (lv' := [(0, .inr (.inr 1)), (1, .inr (.inr x1)), (2, .inr (.inr x2)), (3, .inl (x3 + 4))]) [1, 2, 3, 0] rfl ?_
          exact hP18 _ _ hV
        · have hV := hV.2 c
          refine s_iconst d_L_law_485 (okn rfl) ?_
          exact s_iret d_L_law_486 rfl (nar_z (Or.inl rfl)) ⟨_, rfl, hV⟩
      have hV := hV.2
      have g13 : (13 : Int) ≤ zAnd (hI h 1 x3) 63 := Int.lt_iff_le_and_ne.mpr ⟨g12, fun z => c12 z.symm⟩
      clear c12 g12
      by_cases c13 : zAnd (hI h 1 x3) 63 = 13
      · have hV := hV.1 c13
        refine s_tswIn (tgt := 487) d_L_law_32 w1 w2 (by rw [c13]; try rfl) (by decide) ?_
        refine s_aload_n d_L_law_487 rfl (ma 1 rfl) ?_
        obtain ⟨o, hV⟩ := hV
        refine v_RL_68 rfl (Nat.le_of_ble_eq_true rfl) d_L_law_488 o (Nat.le_of_ble_eq_true rfl) hV (fun r54 h53 hV => ?_)
        refine s_aload_n d_L_law_491 rfl (ma 2 rfl) ?_
        obtain ⟨o, hV⟩ := hV
        refine v_RL_71 rfl (Nat.le_of_ble_eq_true rfl) d_L_law_492 o (Nat.le_of_ble_eq_true rfl) hV (fun r56 h55 hV => ?_)
        refine s_icmp_eq (tgt := 1059) d_L_law_495 (by decide) (fun c => ?_) (fun c => ?_)
        · have hV := hV.1 c
          obtain ⟨o, hV⟩ := hV
          refine s_iinc (lv' := [(3, .inl (x3 + 4)), (0, .inr (.inr 1)), (1, .inr (.inr x1)), (2, .inr (.inr x2))]) d_L_law_1059 (ma 3 rfl) o (Nat.le_of_ble_eq_true rfl) rfl ?_
          refine s_goto (tgt := 18) d_L_law_1062 (by decide) ?_
          refine s_pick (lv' := [(0, .inr (.inr 1)), (1, .inr (.inr x1)), (2, .inr (.inr x2)), (3, .inl (x3 + 4))]) [1, 2, 3, 0] rfl ?_
          exact hP18 _ _ hV
        · have hV := hV.2 c
          refine s_iconst d_L_law_498 (okn rfl) ?_
          exact s_iret d_L_law_499 rfl (nar_z (Or.inl rfl)) ⟨_, rfl, hV⟩
      have hV := hV.2
      have g14 : (14 : Int) ≤ zAnd (hI h 1 x3) 63 := Int.lt_iff_le_and_ne.mpr ⟨g13, fun z => c13 z.symm⟩
      clear c13 g13
      by_cases c14 : zAnd (hI h 1 x3) 63 = 14
      · have hV := hV.1 c14
        refine s_tswIn (tgt := 500) d_L_law_32 w1 w2 (by rw [c14]; try rfl) (by decide) ?_
        refine s_aload_n d_L_law_500 rfl (ma 1 rfl) ?_
        refine s_aload_n d_L_law_501 rfl (ma 0 rfl) ?_
        refine s_iload_n d_L_law_502 rfl (ma 3 rfl) ?_
        refine s_iconst d_L_law_503 (okn rfl) ?_
        obtain ⟨o, hV⟩ := hV
        refine s_iadd d_L_law_504 o ?_
        obtain ⟨o, hV⟩ := hV
        refine s_sld d_L_law_505 o.1 o.2 ?_
        obtain ⟨o, hV⟩ := hV
        refine v_RL_72 rfl (Nat.le_of_ble_eq_true rfl) d_L_law_506 o (Nat.le_of_ble_eq_true rfl) hV (fun r58 h57 hV => ?_)
        refine s_aload_n d_L_law_509 rfl (ma 2 rfl) ?_
        refine s_aload_n d_L_law_510 rfl (ma 0 rfl) ?_
        refine s_iload_n d_L_law_511 rfl (ma 3 rfl) ?_
        refine s_iconst d_L_law_512 (okn rfl) ?_
        obtain ⟨o, hV⟩ := hV
        refine s_iadd d_L_law_513 o ?_
        obtain ⟨o, hV⟩ := hV
        refine s_sld d_L_law_514 o.1 o.2 ?_
        obtain ⟨o, hV⟩ := hV
        refine v_RL_75 rfl (Nat.le_of_ble_eq_true rfl) d_L_law_515 o (Nat.le_of_ble_eq_true rfl) hV (fun r60 h59 hV => ?_)
        refine s_icmp_eq (tgt := 1059) d_L_law_518 (by decide) (fun c => ?_) (fun c => ?_)
        · have hV := hV.1 c
          obtain ⟨o, hV⟩ := hV
          refine s_iinc (lv' := [(3, .inl (x3 + 4)), (0, .inr (.inr 1)), (1, .inr (.inr x1)), (2, .inr (.inr x2))]) d_L_law_1059 (ma 3 rfl) o (Nat.le_of_ble_eq_true rfl) rfl ?_
          refine s_goto (tgt := 18) d_L_law_1062 (by decide) ?_
          refine s_pick (lv' := [(0, .inr (.inr 1)), (1, .inr (.inr x1)), (2, .inr (.inr x2)), (3, .inl (x3 + 4))]) [1, 2, 3, 0] rfl ?_
          exact hP18 _ _ hV
        · have hV := hV.2 c
          refine s_iconst d_L_law_521 (okn rfl) ?_
          exact s_iret d_L_law_522 rfl (nar_z (Or.inl rfl)) ⟨_, rfl, hV⟩
      have hV := hV.2
      have g15 : (15 : Int) ≤ zAnd (hI h 1 x3) 63 := Int.lt_iff_le_and_ne.mpr ⟨g14, fun z => c14 z.symm⟩
      clear c14 g14
      by_cases c15 : zAnd (hI h 1 x3) 63 = 15
      · have hV := hV.1 c15
        refine s_tswIn (tgt := 523) d_L_law_32 w1 w2 (by rw [c15]; try rfl) (by decide) ?_
        refine s_aload_n d_L_law_523 rfl (ma 1 rfl) ?_
        refine s_aload_n d_L_law_524 rfl (ma 0 rfl) ?_
        refine s_iload_n d_L_law_525 rfl (ma 3 rfl) ?_
        refine s_iconst d_L_law_526 (okn rfl) ?_
        obtain ⟨o, hV⟩ := hV
        refine s_iadd d_L_law_527 o ?_
        obtain ⟨o, hV⟩ := hV
        refine s_sld d_L_law_528 o.1 o.2 ?_
        obtain ⟨o, hV⟩ := hV
        refine v_RL_76 rfl (Nat.le_of_ble_eq_true rfl) d_L_law_529 o (Nat.le_of_ble_eq_true rfl) hV (fun r62 h61 hV => ?_)
        refine s_aload_n d_L_law_532 rfl (ma 2 rfl) ?_
        refine s_aload_n d_L_law_533 rfl (ma 0 rfl) ?_
        refine s_iload_n d_L_law_534 rfl (ma 3 rfl) ?_
        refine s_iconst d_L_law_535 (okn rfl) ?_
        obtain ⟨o, hV⟩ := hV
        refine s_iadd d_L_law_536 o ?_
        obtain ⟨o, hV⟩ := hV
        refine s_sld d_L_law_537 o.1 o.2 ?_
        obtain ⟨o, hV⟩ := hV
        refine v_RL_79 rfl (Nat.le_of_ble_eq_true rfl) d_L_law_538 o (Nat.le_of_ble_eq_true rfl) hV (fun r64 h63 hV => ?_)
        refine s_icmp_eq (tgt := 1059) d_L_law_541 (by decide) (fun c => ?_) (fun c => ?_)
        · have hV := hV.1 c
          obtain ⟨o, hV⟩ := hV
          refine s_iinc (lv' := [(3, .inl (x3 + 4)), (0, .inr (.inr 1)), (1, .inr (.inr x1)), (2, .inr (.inr x2))]) d_L_law_1059 (ma 3 rfl) o (Nat.le_of_ble_eq_true rfl) rfl ?_
          refine s_goto (tgt := 18) d_L_law_1062 (by decide) ?_
          refine s_pick (lv' := [(0, .inr (.inr 1)), (1, .inr (.inr x1)), (2, .inr (.inr x2)), (3, .inl (x3 + 4))]) [1, 2, 3, 0] rfl ?_
          exact hP18 _ _ hV
        · have hV := hV.2 c
          refine s_iconst d_L_law_544 (okn rfl) ?_
          exact s_iret d_L_law_545 rfl (nar_z (Or.inl rfl)) ⟨_, rfl, hV⟩
      have hV := hV.2
      have g16 : (16 : Int) ≤ zAnd (hI h 1 x3) 63 := Int.lt_iff_le_and_ne.mpr ⟨g15, fun z => c15 z.symm⟩
      clear c15 g15
      by_cases c16 : zAnd (hI h 1 x3) 63 = 16
      · have hV := hV.1 c16
        refine s_tswIn (tgt := 546) d_L_law_32 w1 w2 (by rw [c16]; try rfl) (by decide) ?_
        refine s_aload_n d_L_law_546 rfl (ma 1 rfl) ?_
        refine s_aload_n d_L_law_547 rfl (ma 0 rfl) ?_
        refine s_iload_n d_L_law_548 rfl (ma 3 rfl) ?_
        refine s_iconst d_L_law_549 (okn rfl) ?_
        obtain ⟨o, hV⟩ := hV
        refine s_iadd d_L_law_550 o ?_
        obtain ⟨o, hV⟩ := hV
        refine s_sld d_L_law_551 o.1 o.2 ?_
        refine s_aload_n d_L_law_552 rfl (ma 0 rfl) ?_
        refine s_iload_n d_L_law_553 rfl (ma 3 rfl) ?_
        refine s_iconst d_L_law_554 (okn rfl) ?_
        obtain ⟨o, hV⟩ := hV
        refine s_iadd d_L_law_555 o ?_
        obtain ⟨o, hV⟩ := hV
        refine s_sld d_L_law_556 o.1 o.2 ?_
        obtain ⟨o, hV⟩ := hV
        refine v_RL_80 rfl (Nat.le_of_ble_eq_true rfl) d_L_law_557 o (Nat.le_of_ble_eq_true rfl) hV (fun r66 h65 hV => ?_)
        refine s_aload_n d_L_law_560 rfl (ma 2 rfl) ?_
        refine s_aload_n d_L_law_561 rfl (ma 0 rfl) ?_
        refine s_iload_n d_L_law_562 rfl (ma 3 rfl) ?_
        refine s_iconst d_L_law_563 (okn rfl) ?_
        obtain ⟨o, hV⟩ := hV
        refine s_iadd d_L_law_564 o ?_
        obtain ⟨o, hV⟩ := hV
        refine s_sld d_L_law_565 o.1 o.2 ?_
        refine s_aload_n d_L_law_566 rfl (ma 0 rfl) ?_
        refine s_iload_n d_L_law_567 rfl (ma 3 rfl) ?_
        refine s_iconst d_L_law_568 (okn rfl) ?_
        obtain ⟨o, hV⟩ := hV
        refine s_iadd d_L_law_569 o ?_
        obtain ⟨o, hV⟩ := hV
        refine s_sld d_L_law_570 o.1 o.2 ?_
        obtain ⟨o, hV⟩ := hV
        refine v_RL_83 rfl (Nat.le_of_ble_eq_true rfl) d_L_law_571 o (Nat.le_of_ble_eq_true rfl) hV (fun r68 h67 hV => ?_)
        refine s_icmp_eq (tgt := 1059) d_L_law_574 (by decide) (fun c => ?_) (fun c => ?_)
        · have hV := hV.1 c
          obtain ⟨o, hV⟩ := hV
          refine s_iinc (lv' := [(3, .inl (x3 + 4)), (0, .inr (.inr 1)), (1, .inr (.inr x1)), (2, .inr (.inr x2))]) d_L_law_1059 (ma 3 rfl) o (Nat.le_of_ble_eq_true rfl) rfl ?_
          refine s_goto (tgt := 18) d_L_law_1062 (by decide) ?_
          refine s_pick (lv' := [(0, .inr (.inr 1)), (1, .inr (.inr x1)), (2, .inr (.inr x2)), (3, .inl (x3 + 4))]) [1, 2, 3, 0] rfl ?_
          exact hP18 _ _ hV
        · have hV := hV.2 c
          refine s_iconst d_L_law_577 (okn rfl) ?_
          exact s_iret d_L_law_578 rfl (nar_z (Or.inl rfl)) ⟨_, rfl, hV⟩
      have hV := hV.2
      have g17 : (17 : Int) ≤ zAnd (hI h 1 x3) 63 := Int.lt_iff_le_and_ne.mpr ⟨g16, fun z => c16 z.symm⟩
      clear c16 g16
      by_cases c17 : zAnd (hI h 1 x3) 63 = 17
      · have hV := hV.1 c17
        refine s_tswIn (tgt := 579) d_L_law_32 w1 w2 (by rw [c17]; try rfl) (by decide) ?_
        refine s_aload_n d_L_law_579 rfl (ma 1 rfl) ?_
        refine s_aload_n d_L_law_580 rfl (ma 0 rfl) ?_
        refine s_iload_n d_L_law_581 rfl (ma 3 rfl) ?_
        refine s_iconst d_L_law_582 (okn rfl) ?_
        obtain ⟨o, hV⟩ := hV
        refine s_iadd d_L_law_583 o ?_
        obtain ⟨o, hV⟩ := hV
        refine s_sld d_L_law_584 o.1 o.2 ?_
        refine s_aload_n d_L_law_585 rfl (ma 0 rfl) ?_
        refine s_iload_n d_L_law_586 rfl (ma 3 rfl) ?_
        refine s_iconst d_L_law_587 (okn rfl) ?_
        obtain ⟨o, hV⟩ := hV
        refine s_iadd d_L_law_588 o ?_
        obtain ⟨o, hV⟩ := hV
        refine s_sld d_L_law_589 o.1 o.2 ?_
        refine s_aload_n d_L_law_590 rfl (ma 0 rfl) ?_
        refine s_iload_n d_L_law_591 rfl (ma 3 rfl) ?_
        refine s_iconst d_L_law_592 (okn rfl) ?_
        obtain ⟨o, hV⟩ := hV
        refine s_iadd d_L_law_593 o ?_
        obtain ⟨o, hV⟩ := hV
        refine s_sld d_L_law_594 o.1 o.2 ?_
        obtain ⟨o, hV⟩ := hV
        refine v_RL_84 rfl (Nat.le_of_ble_eq_true rfl) d_L_law_595 o (Nat.le_of_ble_eq_true rfl) hV (fun r70 h69 hV => ?_)
        refine s_aload_n d_L_law_598 rfl (ma 2 rfl) ?_
        refine s_aload_n d_L_law_599 rfl (ma 0 rfl) ?_
        refine s_iload_n d_L_law_600 rfl (ma 3 rfl) ?_
        refine s_iconst d_L_law_601 (okn rfl) ?_
        obtain ⟨o, hV⟩ := hV
        refine s_iadd d_L_law_602 o ?_
        obtain ⟨o, hV⟩ := hV
        refine s_sld d_L_law_603 o.1 o.2 ?_
        refine s_aload_n d_L_law_604 rfl (ma 0 rfl) ?_
        refine s_iload_n d_L_law_605 rfl (ma 3 rfl) ?_
        refine s_iconst d_L_law_606 (okn rfl) ?_
        obtain ⟨o, hV⟩ := hV
        refine s_iadd d_L_law_607 o ?_
        obtain ⟨o, hV⟩ := hV
        refine s_sld d_L_law_608 o.1 o.2 ?_
        refine s_aload_n d_L_law_609 rfl (ma 0 rfl) ?_
        refine s_iload_n d_L_law_610 rfl (ma 3 rfl) ?_
        refine s_iconst d_L_law_611 (okn rfl) ?_
        obtain ⟨o, hV⟩ := hV
        refine s_iadd d_L_law_612 o ?_
        obtain ⟨o, hV⟩ := hV
        refine s_sld d_L_law_613 o.1 o.2 ?_
        obtain ⟨o, hV⟩ := hV
        refine v_RL_88 rfl (Nat.le_of_ble_eq_true rfl) d_L_law_614 o (Nat.le_of_ble_eq_true rfl) hV (fun r72 h71 hV => ?_)
        refine s_icmp_eq (tgt := 1059) d_L_law_617 (by decide) (fun c => ?_) (fun c => ?_)
        · have hV := hV.1 c
          obtain ⟨o, hV⟩ := hV
          refine s_iinc (lv' := [(3, .inl (x3 + 4)), (0, .inr (.inr 1)), (1, .inr (.inr x1)), (2, .inr (.inr x2))]) d_L_law_1059 (ma 3 rfl) o (Nat.le_of_ble_eq_true rfl) rfl ?_
          refine s_goto (tgt := 18) d_L_law_1062 (by decide) ?_
          refine s_pick (lv' := [(0, .inr (.inr 1)), (1, .inr (.inr x1)), (2, .inr (.inr x2)), (3, .inl (x3 + 4))]) [1, 2, 3, 0] rfl ?_
          exact hP18 _ _ hV
        · have hV := hV.2 c
          refine s_iconst d_L_law_620 (okn rfl) ?_
          exact s_iret d_L_law_621 rfl (nar_z (Or.inl rfl)) ⟨_, rfl, hV⟩
      have hV := hV.2
      have g18 : (18 : Int) ≤ zAnd (hI h 1 x3) 63 := Int.lt_iff_le_and_ne.mpr ⟨g17, fun z => c17 z.symm⟩
      clear c17 g17
      by_cases c18 : zAnd (hI h 1 x3) 63 = 18
      · have hV := hV.1 c18
        refine s_tswIn (tgt := 622) d_L_law_32 w1 w2 (by rw [c18]; try rfl) (by decide) ?_
        refine s_aload_n d_L_law_622 rfl (ma 1 rfl) ?_
        refine s_aload_n d_L_law_623 rfl (ma 0 rfl) ?_
        refine s_iload_n d_L_law_624 rfl (ma 3 rfl) ?_
        refine s_iconst d_L_law_625 (okn rfl) ?_
        obtain ⟨o, hV⟩ := hV
        refine s_iadd d_L_law_626 o ?_
        obtain ⟨o, hV⟩ := hV
        refine s_sld d_L_law_627 o.1 o.2 ?_
        refine s_aload_n d_L_law_628 rfl (ma 0 rfl) ?_
        refine s_iload_n d_L_law_629 rfl (ma 3 rfl) ?_
        refine s_iconst d_L_law_630 (okn rfl) ?_
        obtain ⟨o, hV⟩ := hV
        refine s_iadd d_L_law_631 o ?_
        obtain ⟨o, hV⟩ := hV
        refine s_sld d_L_law_632 o.1 o.2 ?_
        refine s_aload_n d_L_law_633 rfl (ma 0 rfl) ?_
        refine s_iload_n d_L_law_634 rfl (ma 3 rfl) ?_
        refine s_iconst d_L_law_635 (okn rfl) ?_
        obtain ⟨o, hV⟩ := hV
        refine s_iadd d_L_law_636 o ?_
        obtain ⟨o, hV⟩ := hV
        refine s_sld d_L_law_637 o.1 o.2 ?_
        obtain ⟨o, hV⟩ := hV
        refine v_RL_89 rfl (Nat.le_of_ble_eq_true rfl) d_L_law_638 o (Nat.le_of_ble_eq_true rfl) hV (fun r74 h73 hV => ?_)
        refine s_aload_n d_L_law_641 rfl (ma 2 rfl) ?_
        refine s_aload_n d_L_law_642 rfl (ma 0 rfl) ?_
        refine s_iload_n d_L_law_643 rfl (ma 3 rfl) ?_
        refine s_iconst d_L_law_644 (okn rfl) ?_
        obtain ⟨o, hV⟩ := hV
        refine s_iadd d_L_law_645 o ?_
        obtain ⟨o, hV⟩ := hV
        refine s_sld d_L_law_646 o.1 o.2 ?_
        refine s_aload_n d_L_law_647 rfl (ma 0 rfl) ?_
        refine s_iload_n d_L_law_648 rfl (ma 3 rfl) ?_
        refine s_iconst d_L_law_649 (okn rfl) ?_
        obtain ⟨o, hV⟩ := hV
        refine s_iadd d_L_law_650 o ?_
        obtain ⟨o, hV⟩ := hV
        refine s_sld d_L_law_651 o.1 o.2 ?_
        refine s_aload_n d_L_law_652 rfl (ma 0 rfl) ?_
        refine s_iload_n d_L_law_653 rfl (ma 3 rfl) ?_
        refine s_iconst d_L_law_654 (okn rfl) ?_
        obtain ⟨o, hV⟩ := hV
        refine s_iadd d_L_law_655 o ?_
        obtain ⟨o, hV⟩ := hV
        refine s_sld d_L_law_656 o.1 o.2 ?_
        obtain ⟨o, hV⟩ := hV
        refine v_RL_92 rfl (Nat.le_of_ble_eq_true rfl) d_L_law_657 o (Nat.le_of_ble_eq_true rfl) hV (fun r76 h75 hV => ?_)
        refine s_icmp_eq (tgt := 1059) d_L_law_660 (by decide) (fun c => ?_) (fun c => ?_)
        · have hV := hV.1 c
          obtain ⟨o, hV⟩ := hV
          refine s_iinc (lv' := [(3, .inl (x3 + 4)), (0, .inr (.inr 1)), (1, .inr (.inr x1)), (2, .inr (.inr x2))]) d_L_law_1059 (ma 3 rfl) o (Nat.le_of_ble_eq_true rfl) rfl ?_
          refine s_goto (tgt := 18) d_L_law_1062 (by decide) ?_
          refine s_pick (lv' := [(0, .inr (.inr 1)), (1, .inr (.inr x1)), (2, .inr (.inr x2)), (3, .inl (x3 + 4))]) [1, 2, 3, 0] rfl ?_
          exact hP18 _ _ hV
        · have hV := hV.2 c
          refine s_iconst d_L_law_663 (okn rfl) ?_
          exact s_iret d_L_law_664 rfl (nar_z (Or.inl rfl)) ⟨_, rfl, hV⟩
      have hV := hV.2
      have g19 : (19 : Int) ≤ zAnd (hI h 1 x3) 63 := Int.lt_iff_le_and_ne.mpr ⟨g18, fun z => c18 z.symm⟩
      clear c18 g18
      by_cases c19 : zAnd (hI h 1 x3) 63 = 19
      · have hV := hV.1 c19
        refine s_tswIn (tgt := 665) d_L_law_32 w1 w2 (by rw [c19]; try rfl) (by decide) ?_
        refine s_aload_n d_L_law_665 rfl (ma 1 rfl) ?_
        refine s_aload_n d_L_law_666 rfl (ma 0 rfl) ?_
        refine s_iload_n d_L_law_667 rfl (ma 3 rfl) ?_
        refine s_iconst d_L_law_668 (okn rfl) ?_
        obtain ⟨o, hV⟩ := hV
        refine s_iadd d_L_law_669 o ?_
        obtain ⟨o, hV⟩ := hV
        refine s_sld d_L_law_670 o.1 o.2 ?_
        refine s_aload_n d_L_law_671 rfl (ma 0 rfl) ?_
        refine s_iload_n d_L_law_672 rfl (ma 3 rfl) ?_
        refine s_iconst d_L_law_673 (okn rfl) ?_
        obtain ⟨o, hV⟩ := hV
        refine s_iadd d_L_law_674 o ?_
        obtain ⟨o, hV⟩ := hV
        refine s_sld d_L_law_675 o.1 o.2 ?_
        obtain ⟨o, hV⟩ := hV
        refine v_RL_93 rfl (Nat.le_of_ble_eq_true rfl) d_L_law_676 o (Nat.le_of_ble_eq_true rfl) hV (fun r78 h77 hV => ?_)
        refine s_aload_n d_L_law_679 rfl (ma 2 rfl) ?_
        refine s_aload_n d_L_law_680 rfl (ma 0 rfl) ?_
        refine s_iload_n d_L_law_681 rfl (ma 3 rfl) ?_
        refine s_iconst d_L_law_682 (okn rfl) ?_
        obtain ⟨o, hV⟩ := hV
        refine s_iadd d_L_law_683 o ?_
        obtain ⟨o, hV⟩ := hV
        refine s_sld d_L_law_684 o.1 o.2 ?_
        refine s_aload_n d_L_law_685 rfl (ma 0 rfl) ?_
        refine s_iload_n d_L_law_686 rfl (ma 3 rfl) ?_
        refine s_iconst d_L_law_687 (okn rfl) ?_
        obtain ⟨o, hV⟩ := hV
        refine s_iadd d_L_law_688 o ?_
        obtain ⟨o, hV⟩ := hV
        refine s_sld d_L_law_689 o.1 o.2 ?_
        obtain ⟨o, hV⟩ := hV
        refine v_RL_96 rfl (Nat.le_of_ble_eq_true rfl) d_L_law_690 o (Nat.le_of_ble_eq_true rfl) hV (fun r80 h79 hV => ?_)
        refine s_icmp_eq (tgt := 1059) d_L_law_693 (by decide) (fun c => ?_) (fun c => ?_)
        · have hV := hV.1 c
          obtain ⟨o, hV⟩ := hV
          refine s_iinc (lv' := [(3, .inl (x3 + 4)), (0, .inr (.inr 1)), (1, .inr (.inr x1)), (2, .inr (.inr x2))]) d_L_law_1059 (ma 3 rfl) o (Nat.le_of_ble_eq_true rfl) rfl ?_
          refine s_goto (tgt := 18) d_L_law_1062 (by decide) ?_
          refine s_pick (lv' := [(0, .inr (.inr 1)), (1, .inr (.inr x1)), (2, .inr (.inr x2)), (3, .inl (x3 + 4))]) [1, 2, 3, 0] rfl ?_
          exact hP18 _ _ hV
        · have hV := hV.2 c
          refine s_iconst d_L_law_696 (okn rfl) ?_
          exact s_iret d_L_law_697 rfl (nar_z (Or.inl rfl)) ⟨_, rfl, hV⟩
      have hV := hV.2
      have g20 : (20 : Int) ≤ zAnd (hI h 1 x3) 63 := Int.lt_iff_le_and_ne.mpr ⟨g19, fun z => c19 z.symm⟩
      clear c19 g19
      by_cases c20 : zAnd (hI h 1 x3) 63 = 20
      · have hV := hV.1 c20
        refine s_tswIn (tgt := 698) d_L_law_32 w1 w2 (by rw [c20]; try rfl) (by decide) ?_
        refine s_aload_n d_L_law_698 rfl (ma 1 rfl) ?_
        refine s_aload_n d_L_law_699 rfl (ma 0 rfl) ?_
        refine s_iload_n d_L_law_700 rfl (ma 3 rfl) ?_
        refine s_iconst d_L_law_701 (okn rfl) ?_
        obtain ⟨o, hV⟩ := hV
        refine s_iadd d_L_law_702 o ?_
        obtain ⟨o, hV⟩ := hV
        refine s_sld d_L_law_703 o.1 o.2 ?_
        obtain ⟨o, hV⟩ := hV
        refine v_RL_97 rfl (Nat.le_of_ble_eq_true rfl) d_L_law_704 o (Nat.le_of_ble_eq_true rfl) hV (fun r82 h81 hV => ?_)
        refine s_aload_n d_L_law_707 rfl (ma 2 rfl) ?_
        refine s_aload_n d_L_law_708 rfl (ma 0 rfl) ?_
        refine s_iload_n d_L_law_709 rfl (ma 3 rfl) ?_
        refine s_iconst d_L_law_710 (okn rfl) ?_
        obtain ⟨o, hV⟩ := hV
        refine s_iadd d_L_law_711 o ?_
        obtain ⟨o, hV⟩ := hV
        refine s_sld d_L_law_712 o.1 o.2 ?_
        obtain ⟨o, hV⟩ := hV
        refine v_RL_100 rfl (Nat.le_of_ble_eq_true rfl) d_L_law_713 o (Nat.le_of_ble_eq_true rfl) hV (fun r84 h83 hV => ?_)
        refine s_icmp_eq (tgt := 1059) d_L_law_716 (by decide) (fun c => ?_) (fun c => ?_)
        · have hV := hV.1 c
          obtain ⟨o, hV⟩ := hV
          refine s_iinc (lv' := [(3, .inl (x3 + 4)), (0, .inr (.inr 1)), (1, .inr (.inr x1)), (2, .inr (.inr x2))]) d_L_law_1059 (ma 3 rfl) o (Nat.le_of_ble_eq_true rfl) rfl ?_
          refine s_goto (tgt := 18) d_L_law_1062 (by decide) ?_
          refine s_pick (lv' := [(0, .inr (.inr 1)), (1, .inr (.inr x1)), (2, .inr (.inr x2)), (3, .inl (x3 + 4))]) [1, 2, 3, 0] rfl ?_
          exact hP18 _ _ hV
        · have hV := hV.2 c
          refine s_iconst d_L_law_719 (okn rfl) ?_
          exact s_iret d_L_law_720 rfl (nar_z (Or.inl rfl)) ⟨_, rfl, hV⟩
      have hV := hV.2
      have g21 : (21 : Int) ≤ zAnd (hI h 1 x3) 63 := Int.lt_iff_le_and_ne.mpr ⟨g20, fun z => c20 z.symm⟩
      clear c20 g20
      by_cases c21 : zAnd (hI h 1 x3) 63 = 21
      · have hV := hV.1 c21
        refine s_tswIn (tgt := 721) d_L_law_32 w1 w2 (by rw [c21]; try rfl) (by decide) ?_
        refine s_aload_n d_L_law_721 rfl (ma 1 rfl) ?_
        refine s_aload_n d_L_law_722 rfl (ma 0 rfl) ?_
        refine s_iload_n d_L_law_723 rfl (ma 3 rfl) ?_
        refine s_iconst d_L_law_724 (okn rfl) ?_
        obtain ⟨o, hV⟩ := hV
        refine s_iadd d_L_law_725 o ?_
        obtain ⟨o, hV⟩ := hV
        refine s_sld d_L_law_726 o.1 o.2 ?_
        obtain ⟨o, hV⟩ := hV
        refine v_RL_101 rfl (Nat.le_of_ble_eq_true rfl) d_L_law_727 o (Nat.le_of_ble_eq_true rfl) hV (fun r86 h85 hV => ?_)
        refine s_aload_n d_L_law_730 rfl (ma 2 rfl) ?_
        refine s_aload_n d_L_law_731 rfl (ma 0 rfl) ?_
        refine s_iload_n d_L_law_732 rfl (ma 3 rfl) ?_
        refine s_iconst d_L_law_733 (okn rfl) ?_
        obtain ⟨o, hV⟩ := hV
        refine s_iadd d_L_law_734 o ?_
        obtain ⟨o, hV⟩ := hV
        refine s_sld d_L_law_735 o.1 o.2 ?_
        obtain ⟨o, hV⟩ := hV
        refine v_RL_104 rfl (Nat.le_of_ble_eq_true rfl) d_L_law_736 o (Nat.le_of_ble_eq_true rfl) hV (fun r88 h87 hV => ?_)
        refine s_icmp_eq (tgt := 1059) d_L_law_739 (by decide) (fun c => ?_) (fun c => ?_)
        · have hV := hV.1 c
          obtain ⟨o, hV⟩ := hV
          refine s_iinc (lv' := [(3, .inl (x3 + 4)), (0, .inr (.inr 1)), (1, .inr (.inr x1)), (2, .inr (.inr x2))]) d_L_law_1059 (ma 3 rfl) o (Nat.le_of_ble_eq_true rfl) rfl ?_
          refine s_goto (tgt := 18) d_L_law_1062 (by decide) ?_
          refine s_pick (lv' := [(0, .inr (.inr 1)), (1, .inr (.inr x1)), (2, .inr (.inr x2)), (3, .inl (x3 + 4))]) [1, 2, 3, 0] rfl ?_
          exact hP18 _ _ hV
        · have hV := hV.2 c
          refine s_iconst d_L_law_742 (okn rfl) ?_
          exact s_iret d_L_law_743 rfl (nar_z (Or.inl rfl)) ⟨_, rfl, hV⟩
      have hV := hV.2
      have g22 : (22 : Int) ≤ zAnd (hI h 1 x3) 63 := Int.lt_iff_le_and_ne.mpr ⟨g21, fun z => c21 z.symm⟩
      clear c21 g21
      by_cases c22 : zAnd (hI h 1 x3) 63 = 22
      · have hV := hV.1 c22
        refine s_tswIn (tgt := 744) d_L_law_32 w1 w2 (by rw [c22]; try rfl) (by decide) ?_
        refine s_aload_n d_L_law_744 rfl (ma 1 rfl) ?_
        refine s_aload_n d_L_law_745 rfl (ma 0 rfl) ?_
        refine s_iload_n d_L_law_746 rfl (ma 3 rfl) ?_
        refine s_iconst d_L_law_747 (okn rfl) ?_
        obtain ⟨o, hV⟩ := hV
        refine s_iadd d_L_law_748 o ?_
        obtain ⟨o, hV⟩ := hV
        refine s_sld d_L_law_749 o.1 o.2 ?_
        obtain ⟨o, hV⟩ := hV
        refine v_RL_105 rfl (Nat.le_of_ble_eq_true rfl) d_L_law_750 o (Nat.le_of_ble_eq_true rfl) hV (fun r90 h89 hV => ?_)
        refine s_aload_n d_L_law_753 rfl (ma 2 rfl) ?_
        refine s_aload_n d_L_law_754 rfl (ma 0 rfl) ?_
        refine s_iload_n d_L_law_755 rfl (ma 3 rfl) ?_
        refine s_iconst d_L_law_756 (okn rfl) ?_
        obtain ⟨o, hV⟩ := hV
        refine s_iadd d_L_law_757 o ?_
        obtain ⟨o, hV⟩ := hV
        refine s_sld d_L_law_758 o.1 o.2 ?_
        obtain ⟨o, hV⟩ := hV
        refine v_RL_108 rfl (Nat.le_of_ble_eq_true rfl) d_L_law_759 o (Nat.le_of_ble_eq_true rfl) hV (fun r92 h91 hV => ?_)
        refine s_icmp_eq (tgt := 1059) d_L_law_762 (by decide) (fun c => ?_) (fun c => ?_)
        · have hV := hV.1 c
          obtain ⟨o, hV⟩ := hV
          refine s_iinc (lv' := [(3, .inl (x3 + 4)), (0, .inr (.inr 1)), (1, .inr (.inr x1)), (2, .inr (.inr x2))]) d_L_law_1059 (ma 3 rfl) o (Nat.le_of_ble_eq_true rfl) rfl ?_
          refine s_goto (tgt := 18) d_L_law_1062 (by decide) ?_
          refine s_pick (lv' := [(0, .inr (.inr 1)), (1, .inr (.inr x1)), (2, .inr (.inr x2)), (3, .inl (x3 + 4))]) [1, 2, 3, 0] rfl ?_
          exact hP18 _ _ hV
        · have hV := hV.2 c
          refine s_iconst d_L_law_765 (okn rfl) ?_
          exact s_iret d_L_law_766 rfl (nar_z (Or.inl rfl)) ⟨_, rfl, hV⟩
      have hV := hV.2
      have g23 : (23 : Int) ≤ zAnd (hI h 1 x3) 63 := Int.lt_iff_le_and_ne.mpr ⟨g22, fun z => c22 z.symm⟩
      clear c22 g22
      by_cases c23 : zAnd (hI h 1 x3) 63 = 23
      · have hV := hV.1 c23
        refine s_tswIn (tgt := 767) d_L_law_32 w1 w2 (by rw [c23]; try rfl) (by decide) ?_
        refine s_aload_n d_L_law_767 rfl (ma 1 rfl) ?_
        refine s_aload_n d_L_law_768 rfl (ma 0 rfl) ?_
        refine s_iload_n d_L_law_769 rfl (ma 3 rfl) ?_
        refine s_iconst d_L_law_770 (okn rfl) ?_
        obtain ⟨o, hV⟩ := hV
        refine s_iadd d_L_law_771 o ?_
        obtain ⟨o, hV⟩ := hV
        refine s_sld d_L_law_772 o.1 o.2 ?_
        obtain ⟨o, hV⟩ := hV
        refine v_RL_109 rfl (Nat.le_of_ble_eq_true rfl) d_L_law_773 o (Nat.le_of_ble_eq_true rfl) hV (fun r94 h93 hV => ?_)
        refine s_aload_n d_L_law_776 rfl (ma 2 rfl) ?_
        refine s_aload_n d_L_law_777 rfl (ma 0 rfl) ?_
        refine s_iload_n d_L_law_778 rfl (ma 3 rfl) ?_
        refine s_iconst d_L_law_779 (okn rfl) ?_
        obtain ⟨o, hV⟩ := hV
        refine s_iadd d_L_law_780 o ?_
        obtain ⟨o, hV⟩ := hV
        refine s_sld d_L_law_781 o.1 o.2 ?_
        obtain ⟨o, hV⟩ := hV
        refine v_RL_112 rfl (Nat.le_of_ble_eq_true rfl) d_L_law_782 o (Nat.le_of_ble_eq_true rfl) hV (fun r96 h95 hV => ?_)
        refine s_icmp_eq (tgt := 1059) d_L_law_785 (by decide) (fun c => ?_) (fun c => ?_)
        · have hV := hV.1 c
          obtain ⟨o, hV⟩ := hV
          refine s_iinc (lv' := [(3, .inl (x3 + 4)), (0, .inr (.inr 1)), (1, .inr (.inr x1)), (2, .inr (.inr x2))]) d_L_law_1059 (ma 3 rfl) o (Nat.le_of_ble_eq_true rfl) rfl ?_
          refine s_goto (tgt := 18) d_L_law_1062 (by decide) ?_
          refine s_pick (lv' := [(0, .inr (.inr 1)), (1, .inr (.inr x1)), (2, .inr (.inr x2)), (3, .inl (x3 + 4))]) [1, 2, 3, 0] rfl ?_
          exact hP18 _ _ hV
        · have hV := hV.2 c
          refine s_iconst d_L_law_788 (okn rfl) ?_
          exact s_iret d_L_law_789 rfl (nar_z (Or.inl rfl)) ⟨_, rfl, hV⟩
      have hV := hV.2
      have g24 : (24 : Int) ≤ zAnd (hI h 1 x3) 63 := Int.lt_iff_le_and_ne.mpr ⟨g23, fun z => c23 z.symm⟩
      clear c23 g23
      by_cases c24 : zAnd (hI h 1 x3) 63 = 24
      · have hV := hV.1 c24
        refine s_tswIn (tgt := 790) d_L_law_32 w1 w2 (by rw [c24]; try rfl) (by decide) ?_
        refine s_aload_n d_L_law_790 rfl (ma 1 rfl) ?_
        refine s_aload_n d_L_law_791 rfl (ma 0 rfl) ?_
        refine s_iload_n d_L_law_792 rfl (ma 3 rfl) ?_
        refine s_iconst d_L_law_793 (okn rfl) ?_
        obtain ⟨o, hV⟩ := hV
        refine s_iadd d_L_law_794 o ?_
        obtain ⟨o, hV⟩ := hV
        refine s_sld d_L_law_795 o.1 o.2 ?_
        obtain ⟨o, hV⟩ := hV
        refine v_RL_113 rfl (Nat.le_of_ble_eq_true rfl) d_L_law_796 o (Nat.le_of_ble_eq_true rfl) hV (fun r98 h97 hV => ?_)
        refine s_aload_n d_L_law_799 rfl (ma 2 rfl) ?_
        refine s_aload_n d_L_law_800 rfl (ma 0 rfl) ?_
        refine s_iload_n d_L_law_801 rfl (ma 3 rfl) ?_
        refine s_iconst d_L_law_802 (okn rfl) ?_
        obtain ⟨o, hV⟩ := hV
        refine s_iadd d_L_law_803 o ?_
        obtain ⟨o, hV⟩ := hV
        refine s_sld d_L_law_804 o.1 o.2 ?_
        obtain ⟨o, hV⟩ := hV
        refine v_RL_116 rfl (Nat.le_of_ble_eq_true rfl) d_L_law_805 o (Nat.le_of_ble_eq_true rfl) hV (fun r100 h99 hV => ?_)
        refine s_icmp_eq (tgt := 1059) d_L_law_808 (by decide) (fun c => ?_) (fun c => ?_)
        · have hV := hV.1 c
          obtain ⟨o, hV⟩ := hV
          refine s_iinc (lv' := [(3, .inl (x3 + 4)), (0, .inr (.inr 1)), (1, .inr (.inr x1)), (2, .inr (.inr x2))]) d_L_law_1059 (ma 3 rfl) o (Nat.le_of_ble_eq_true rfl) rfl ?_
          refine s_goto (tgt := 18) d_L_law_1062 (by decide) ?_
          refine s_pick (lv' := [(0, .inr (.inr 1)), (1, .inr (.inr x1)), (2, .inr (.inr x2)), (3, .inl (x3 + 4))]) [1, 2, 3, 0] rfl ?_
          exact hP18 _ _ hV
        · have hV := hV.2 c
          refine s_iconst d_L_law_811 (okn rfl) ?_
          exact s_iret d_L_law_812 rfl (nar_z (Or.inl rfl)) ⟨_, rfl, hV⟩
      have hV := hV.2
      have g25 : (25 : Int) ≤ zAnd (hI h 1 x3) 63 := Int.lt_iff_le_and_ne.mpr ⟨g24, fun z => c24 z.symm⟩
      clear c24 g24
      by_cases c25 : zAnd (hI h 1 x3) 63 = 25
      · have hV := hV.1 c25
        refine s_tswIn (tgt := 813) d_L_law_32 w1 w2 (by rw [c25]; try rfl) (by decide) ?_
        refine s_aload_n d_L_law_813 rfl (ma 1 rfl) ?_
        refine s_aload_n d_L_law_814 rfl (ma 0 rfl) ?_
        refine s_iload_n d_L_law_815 rfl (ma 3 rfl) ?_
        refine s_iconst d_L_law_816 (okn rfl) ?_
        obtain ⟨o, hV⟩ := hV
        refine s_iadd d_L_law_817 o ?_
        obtain ⟨o, hV⟩ := hV
        refine s_sld d_L_law_818 o.1 o.2 ?_
        refine s_aload_n d_L_law_819 rfl (ma 0 rfl) ?_
        refine s_iload_n d_L_law_820 rfl (ma 3 rfl) ?_
        refine s_iconst d_L_law_821 (okn rfl) ?_
        obtain ⟨o, hV⟩ := hV
        refine s_iadd d_L_law_822 o ?_
        obtain ⟨o, hV⟩ := hV
        refine s_sld d_L_law_823 o.1 o.2 ?_
        obtain ⟨o, hV⟩ := hV
        refine v_RL_117 rfl (Nat.le_of_ble_eq_true rfl) d_L_law_824 o (Nat.le_of_ble_eq_true rfl) hV (fun r102 h101 hV => ?_)
        refine s_aload_n d_L_law_827 rfl (ma 2 rfl) ?_
        refine s_aload_n d_L_law_828 rfl (ma 0 rfl) ?_
        refine s_iload_n d_L_law_829 rfl (ma 3 rfl) ?_
        refine s_iconst d_L_law_830 (okn rfl) ?_
        obtain ⟨o, hV⟩ := hV
        refine s_iadd d_L_law_831 o ?_
        obtain ⟨o, hV⟩ := hV
        refine s_sld d_L_law_832 o.1 o.2 ?_
        refine s_aload_n d_L_law_833 rfl (ma 0 rfl) ?_
        refine s_iload_n d_L_law_834 rfl (ma 3 rfl) ?_
        refine s_iconst d_L_law_835 (okn rfl) ?_
        obtain ⟨o, hV⟩ := hV
        refine s_iadd d_L_law_836 o ?_
        obtain ⟨o, hV⟩ := hV
        refine s_sld d_L_law_837 o.1 o.2 ?_
        obtain ⟨o, hV⟩ := hV
        refine v_RL_120 rfl (Nat.le_of_ble_eq_true rfl) d_L_law_838 o (Nat.le_of_ble_eq_true rfl) hV (fun r104 h103 hV => ?_)
        refine s_icmp_eq (tgt := 1059) d_L_law_841 (by decide) (fun c => ?_) (fun c => ?_)
        · have hV := hV.1 c
          obtain ⟨o, hV⟩ := hV
          refine s_iinc (lv' := [(3, .inl (x3 + 4)), (0, .inr (.inr 1)), (1, .inr (.inr x1)), (2, .inr (.inr x2))]) d_L_law_1059 (ma 3 rfl) o (Nat.le_of_ble_eq_true rfl) rfl ?_
          refine s_goto (tgt := 18) d_L_law_1062 (by decide) ?_
          refine s_pick (lv' := [(0, .inr (.inr 1)), (1, .inr (.inr x1)), (2, .inr (.inr x2)), (3, .inl (x3 + 4))]) [1, 2, 3, 0] rfl ?_
          exact hP18 _ _ hV
        · have hV := hV.2 c
          refine s_iconst d_L_law_844 (okn rfl) ?_
          exact s_iret d_L_law_845 rfl (nar_z (Or.inl rfl)) ⟨_, rfl, hV⟩
      have hV := hV.2
      have g26 : (26 : Int) ≤ zAnd (hI h 1 x3) 63 := Int.lt_iff_le_and_ne.mpr ⟨g25, fun z => c25 z.symm⟩
      clear c25 g25
      by_cases c26 : zAnd (hI h 1 x3) 63 = 26
      · have hV := hV.1 c26
        refine s_tswIn (tgt := 846) d_L_law_32 w1 w2 (by rw [c26]; try rfl) (by decide) ?_
        refine s_aload_n d_L_law_846 rfl (ma 1 rfl) ?_
        refine s_aload_n d_L_law_847 rfl (ma 0 rfl) ?_
        refine s_iload_n d_L_law_848 rfl (ma 3 rfl) ?_
        refine s_iconst d_L_law_849 (okn rfl) ?_
        obtain ⟨o, hV⟩ := hV
        refine s_iadd d_L_law_850 o ?_
        obtain ⟨o, hV⟩ := hV
        refine s_sld d_L_law_851 o.1 o.2 ?_
        refine s_aload_n d_L_law_852 rfl (ma 0 rfl) ?_
        refine s_iload_n d_L_law_853 rfl (ma 3 rfl) ?_
        refine s_iconst d_L_law_854 (okn rfl) ?_
        obtain ⟨o, hV⟩ := hV
        refine s_iadd d_L_law_855 o ?_
        obtain ⟨o, hV⟩ := hV
        refine s_sld d_L_law_856 o.1 o.2 ?_
        refine s_aload_n d_L_law_857 rfl (ma 0 rfl) ?_
        refine s_iload_n d_L_law_858 rfl (ma 3 rfl) ?_
        refine s_iconst d_L_law_859 (okn rfl) ?_
        obtain ⟨o, hV⟩ := hV
        refine s_iadd d_L_law_860 o ?_
        obtain ⟨o, hV⟩ := hV
        refine s_sld d_L_law_861 o.1 o.2 ?_
        refine s_if_eq (tgt := 869) d_L_law_862 (by decide) (fun c => ?_) (fun c => ?_)
        · have hV := hV.1 c
          refine s_iconst d_L_law_869 (okn rfl) ?_
          exact GJ_L_law_870 _ _ _ _ _ _ _ _ _ (by intros; apply hP18; assumption) hV
        · have hV := hV.2 c
          refine s_iconst d_L_law_865 (okn rfl) ?_
          refine s_goto (tgt := 870) d_L_law_866 (by decide) ?_
          exact GJ_L_law_870 _ _ _ _ _ _ _ _ _ (by intros; apply hP18; assumption) hV
      have hV := hV.2
      have g27 : (27 : Int) ≤ zAnd (hI h 1 x3) 63 := Int.lt_iff_le_and_ne.mpr ⟨g26, fun z => c26 z.symm⟩
      clear c26 g26
      by_cases c27 : zAnd (hI h 1 x3) 63 = 27
      · have hV := hV.1 c27
        refine s_tswIn (tgt := 905) d_L_law_32 w1 w2 (by rw [c27]; try rfl) (by decide) ?_
        refine s_aload_n d_L_law_905 rfl (ma 1 rfl) ?_
        obtain ⟨o, hV⟩ := hV
        refine v_RL_126 rfl (Nat.le_of_ble_eq_true rfl) d_L_law_906 o (Nat.le_of_ble_eq_true rfl) hV (fun r106 h105 hV => ?_)
        refine s_aload_n d_L_law_909 rfl (ma 2 rfl) ?_
        obtain ⟨o, hV⟩ := hV
        refine v_RL_129 rfl (Nat.le_of_ble_eq_true rfl) d_L_law_910 o (Nat.le_of_ble_eq_true rfl) hV (fun r108 h107 hV => ?_)
        refine s_icmp_eq (tgt := 1059) d_L_law_913 (by decide) (fun c => ?_) (fun c => ?_)
        · have hV := hV.1 c
          obtain ⟨o, hV⟩ := hV
          refine s_iinc (lv' := [(3, .inl (x3 + 4)), (0, .inr (.inr 1)), (1, .inr (.inr x1)), (2, .inr (.inr x2))]) d_L_law_1059 (ma 3 rfl) o (Nat.le_of_ble_eq_true rfl) rfl ?_
          refine s_goto (tgt := 18) d_L_law_1062 (by decide) ?_
          refine s_pick (lv' := [(0, .inr (.inr 1)), (1, .inr (.inr x1)), (2, .inr (.inr x2)), (3, .inl (x3 + 4))]) [1, 2, 3, 0] rfl ?_
          exact hP18 _ _ hV
        · have hV := hV.2 c
          refine s_iconst d_L_law_916 (okn rfl) ?_
          exact s_iret d_L_law_917 rfl (nar_z (Or.inl rfl)) ⟨_, rfl, hV⟩
      have hV := hV.2
      have g28 : (28 : Int) ≤ zAnd (hI h 1 x3) 63 := Int.lt_iff_le_and_ne.mpr ⟨g27, fun z => c27 z.symm⟩
      clear c27 g27
      by_cases c28 : zAnd (hI h 1 x3) 63 = 28
      · have hV := hV.1 c28
        refine s_tswIn (tgt := 918) d_L_law_32 w1 w2 (by rw [c28]; try rfl) (by decide) ?_
        refine s_aload_n d_L_law_918 rfl (ma 1 rfl) ?_
        obtain ⟨o, hV⟩ := hV
        refine v_RL_130 rfl (Nat.le_of_ble_eq_true rfl) d_L_law_919 o (Nat.le_of_ble_eq_true rfl) hV (fun r110 h109 hV => ?_)
        refine s_aload_n d_L_law_922 rfl (ma 2 rfl) ?_
        obtain ⟨o, hV⟩ := hV
        refine v_RL_133 rfl (Nat.le_of_ble_eq_true rfl) d_L_law_923 o (Nat.le_of_ble_eq_true rfl) hV (fun r112 h111 hV => ?_)
        refine s_icmp_eq (tgt := 1059) d_L_law_926 (by decide) (fun c => ?_) (fun c => ?_)
        · have hV := hV.1 c
          obtain ⟨o, hV⟩ := hV
          refine s_iinc (lv' := [(3, .inl (x3 + 4)), (0, .inr (.inr 1)), (1, .inr (.inr x1)), (2, .inr (.inr x2))]) d_L_law_1059 (ma 3 rfl) o (Nat.le_of_ble_eq_true rfl) rfl ?_
          refine s_goto (tgt := 18) d_L_law_1062 (by decide) ?_
          refine s_pick (lv' := [(0, .inr (.inr 1)), (1, .inr (.inr x1)), (2, .inr (.inr x2)), (3, .inl (x3 + 4))]) [1, 2, 3, 0] rfl ?_
          exact hP18 _ _ hV
        · have hV := hV.2 c
          refine s_iconst d_L_law_929 (okn rfl) ?_
          exact s_iret d_L_law_930 rfl (nar_z (Or.inl rfl)) ⟨_, rfl, hV⟩
      have hV := hV.2
      have g29 : (29 : Int) ≤ zAnd (hI h 1 x3) 63 := Int.lt_iff_le_and_ne.mpr ⟨g28, fun z => c28 z.symm⟩
      clear c28 g28
      by_cases c29 : zAnd (hI h 1 x3) 63 = 29
      · have hV := hV.1 c29
        refine s_tswIn (tgt := 931) d_L_law_32 w1 w2 (by rw [c29]; try rfl) (by decide) ?_
        refine s_aload_n d_L_law_931 rfl (ma 1 rfl) ?_
        refine s_aload_n d_L_law_932 rfl (ma 0 rfl) ?_
        refine s_iload_n d_L_law_933 rfl (ma 3 rfl) ?_
        refine s_iconst d_L_law_934 (okn rfl) ?_
        obtain ⟨o, hV⟩ := hV
        refine s_iadd d_L_law_935 o ?_
        obtain ⟨o, hV⟩ := hV
        refine s_sld d_L_law_936 o.1 o.2 ?_
        refine s_aload_n d_L_law_937 rfl (ma 0 rfl) ?_
        refine s_iload_n d_L_law_938 rfl (ma 3 rfl) ?_
        refine s_iconst d_L_law_939 (okn rfl) ?_
        obtain ⟨o, hV⟩ := hV
        refine s_iadd d_L_law_940 o ?_
        obtain ⟨o, hV⟩ := hV
        refine s_sld d_L_law_941 o.1 o.2 ?_
        obtain ⟨o, hV⟩ := hV
        refine v_RL_134 rfl (Nat.le_of_ble_eq_true rfl) d_L_law_942 o (Nat.le_of_ble_eq_true rfl) hV (fun r114 h113 hV => ?_)
        refine s_aload_n d_L_law_945 rfl (ma 2 rfl) ?_
        refine s_aload_n d_L_law_946 rfl (ma 0 rfl) ?_
        refine s_iload_n d_L_law_947 rfl (ma 3 rfl) ?_
        refine s_iconst d_L_law_948 (okn rfl) ?_
        obtain ⟨o, hV⟩ := hV
        refine s_iadd d_L_law_949 o ?_
        obtain ⟨o, hV⟩ := hV
        refine s_sld d_L_law_950 o.1 o.2 ?_
        refine s_aload_n d_L_law_951 rfl (ma 0 rfl) ?_
        refine s_iload_n d_L_law_952 rfl (ma 3 rfl) ?_
        refine s_iconst d_L_law_953 (okn rfl) ?_
        obtain ⟨o, hV⟩ := hV
        refine s_iadd d_L_law_954 o ?_
        obtain ⟨o, hV⟩ := hV
        refine s_sld d_L_law_955 o.1 o.2 ?_
        obtain ⟨o, hV⟩ := hV
        refine v_RL_137 rfl (Nat.le_of_ble_eq_true rfl) d_L_law_956 o (Nat.le_of_ble_eq_true rfl) hV (fun r116 h115 hV => ?_)
        refine s_icmp_eq (tgt := 1059) d_L_law_959 (by decide) (fun c => ?_) (fun c => ?_)
        · have hV := hV.1 c
          obtain ⟨o, hV⟩ := hV
          refine s_iinc (lv' := [(3, .inl (x3 + 4)), (0, .inr (.inr 1)), (1, .inr (.inr x1)), (2, .inr (.inr x2))]) d_L_law_1059 (ma 3 rfl) o (Nat.le_of_ble_eq_true rfl) rfl ?_
          refine s_goto (tgt := 18) d_L_law_1062 (by decide) ?_
          refine s_pick (lv' := [(0, .inr (.inr 1)), (1, .inr (.inr x1)), (2, .inr (.inr x2)), (3, .inl (x3 + 4))]) [1, 2, 3, 0] rfl ?_
          exact hP18 _ _ hV
        · have hV := hV.2 c
          refine s_iconst d_L_law_962 (okn rfl) ?_
          exact s_iret d_L_law_963 rfl (nar_z (Or.inl rfl)) ⟨_, rfl, hV⟩
      have hV := hV.2
      have g30 : (30 : Int) ≤ zAnd (hI h 1 x3) 63 := Int.lt_iff_le_and_ne.mpr ⟨g29, fun z => c29 z.symm⟩
      clear c29 g29
      by_cases c30 : zAnd (hI h 1 x3) 63 = 30
      · have hV := hV.1 c30
        refine s_tswIn (tgt := 964) d_L_law_32 w1 w2 (by rw [c30]; try rfl) (by decide) ?_
        refine s_aload_n d_L_law_964 rfl (ma 1 rfl) ?_
        obtain ⟨o, hV⟩ := hV
        refine v_RL_138 rfl (Nat.le_of_ble_eq_true rfl) d_L_law_965 o (Nat.le_of_ble_eq_true rfl) hV (fun r118 h117 hV => ?_)
        refine s_aload_n d_L_law_968 rfl (ma 2 rfl) ?_
        obtain ⟨o, hV⟩ := hV
        refine v_RL_141 rfl (Nat.le_of_ble_eq_true rfl) d_L_law_969 o (Nat.le_of_ble_eq_true rfl) hV (fun r120 h119 hV => ?_)
        refine s_icmp_eq (tgt := 1059) d_L_law_972 (by decide) (fun c => ?_) (fun c => ?_)
        · have hV := hV.1 c
          obtain ⟨o, hV⟩ := hV
          refine s_iinc (lv' := [(3, .inl (x3 + 4)), (0, .inr (.inr 1)), (1, .inr (.inr x1)), (2, .inr (.inr x2))]) d_L_law_1059 (ma 3 rfl) o (Nat.le_of_ble_eq_true rfl) rfl ?_
          refine s_goto (tgt := 18) d_L_law_1062 (by decide) ?_
          refine s_pick (lv' := [(0, .inr (.inr 1)), (1, .inr (.inr x1)), (2, .inr (.inr x2)), (3, .inl (x3 + 4))]) [1, 2, 3, 0] rfl ?_
          exact hP18 _ _ hV
        · have hV := hV.2 c
          refine s_iconst d_L_law_975 (okn rfl) ?_
          exact s_iret d_L_law_976 rfl (nar_z (Or.inl rfl)) ⟨_, rfl, hV⟩
      have hV := hV.2
      have g31 : (31 : Int) ≤ zAnd (hI h 1 x3) 63 := Int.lt_iff_le_and_ne.mpr ⟨g30, fun z => c30 z.symm⟩
      clear c30 g30
      by_cases c31 : zAnd (hI h 1 x3) 63 = 31
      · have hV := hV.1 c31
        refine s_tswIn (tgt := 977) d_L_law_32 w1 w2 (by rw [c31]; try rfl) (by decide) ?_
        refine s_aload_n d_L_law_977 rfl (ma 1 rfl) ?_
        obtain ⟨o, hV⟩ := hV
        refine v_RL_142 rfl (Nat.le_of_ble_eq_true rfl) d_L_law_978 o (Nat.le_of_ble_eq_true rfl) hV (fun r122 h121 hV => ?_)
        refine s_aload_n d_L_law_981 rfl (ma 2 rfl) ?_
        obtain ⟨o, hV⟩ := hV
        refine v_RL_145 rfl (Nat.le_of_ble_eq_true rfl) d_L_law_982 o (Nat.le_of_ble_eq_true rfl) hV (fun r124 h123 hV => ?_)
        refine s_icmp_eq (tgt := 1059) d_L_law_985 (by decide) (fun c => ?_) (fun c => ?_)
        · have hV := hV.1 c
          obtain ⟨o, hV⟩ := hV
          refine s_iinc (lv' := [(3, .inl (x3 + 4)), (0, .inr (.inr 1)), (1, .inr (.inr x1)), (2, .inr (.inr x2))]) d_L_law_1059 (ma 3 rfl) o (Nat.le_of_ble_eq_true rfl) rfl ?_
          refine s_goto (tgt := 18) d_L_law_1062 (by decide) ?_
          refine s_pick (lv' := [(0, .inr (.inr 1)), (1, .inr (.inr x1)), (2, .inr (.inr x2)), (3, .inl (x3 + 4))]) [1, 2, 3, 0] rfl ?_
          exact hP18 _ _ hV
        · have hV := hV.2 c
          refine s_iconst d_L_law_988 (okn rfl) ?_
          exact s_iret d_L_law_989 rfl (nar_z (Or.inl rfl)) ⟨_, rfl, hV⟩
      have hV := hV.2
      have g32 : (32 : Int) ≤ zAnd (hI h 1 x3) 63 := Int.lt_iff_le_and_ne.mpr ⟨g31, fun z => c31 z.symm⟩
      clear c31 g31
      by_cases c32 : zAnd (hI h 1 x3) 63 = 32
      · have hV := hV.1 c32
        refine s_tswIn (tgt := 990) d_L_law_32 w1 w2 (by rw [c32]; try rfl) (by decide) ?_
        refine s_aload_n d_L_law_990 rfl (ma 1 rfl) ?_
        refine s_aload_n d_L_law_991 rfl (ma 0 rfl) ?_
        refine s_iload_n d_L_law_992 rfl (ma 3 rfl) ?_
        refine s_iconst d_L_law_993 (okn rfl) ?_
        obtain ⟨o, hV⟩ := hV
        refine s_iadd d_L_law_994 o ?_
        obtain ⟨o, hV⟩ := hV
        refine s_sld d_L_law_995 o.1 o.2 ?_
        obtain ⟨o, hV⟩ := hV
        refine v_RL_146 rfl (Nat.le_of_ble_eq_true rfl) d_L_law_996 o (Nat.le_of_ble_eq_true rfl) hV (fun r126 h125 hV => ?_)
        refine s_aload_n d_L_law_999 rfl (ma 2 rfl) ?_
        refine s_aload_n d_L_law_1000 rfl (ma 0 rfl) ?_
        refine s_iload_n d_L_law_1001 rfl (ma 3 rfl) ?_
        refine s_iconst d_L_law_1002 (okn rfl) ?_
        obtain ⟨o, hV⟩ := hV
        refine s_iadd d_L_law_1003 o ?_
        obtain ⟨o, hV⟩ := hV
        refine s_sld d_L_law_1004 o.1 o.2 ?_
        obtain ⟨o, hV⟩ := hV
        refine v_RL_149 rfl (Nat.le_of_ble_eq_true rfl) d_L_law_1005 o (Nat.le_of_ble_eq_true rfl) hV (fun r128 h127 hV => ?_)
        refine s_icmp_eq (tgt := 1059) d_L_law_1008 (by decide) (fun c => ?_) (fun c => ?_)
        · have hV := hV.1 c
          obtain ⟨o, hV⟩ := hV
          refine s_iinc (lv' := [(3, .inl (x3 + 4)), (0, .inr (.inr 1)), (1, .inr (.inr x1)), (2, .inr (.inr x2))]) d_L_law_1059 (ma 3 rfl) o (Nat.le_of_ble_eq_true rfl) rfl ?_
          refine s_goto (tgt := 18) d_L_law_1062 (by decide) ?_
          refine s_pick (lv' := [(0, .inr (.inr 1)), (1, .inr (.inr x1)), (2, .inr (.inr x2)), (3, .inl (x3 + 4))]) [1, 2, 3, 0] rfl ?_
          exact hP18 _ _ hV
        · have hV := hV.2 c
          refine s_iconst d_L_law_1011 (okn rfl) ?_
          exact s_iret d_L_law_1012 rfl (nar_z (Or.inl rfl)) ⟨_, rfl, hV⟩
      have hV := hV.2
      have g33 : (33 : Int) ≤ zAnd (hI h 1 x3) 63 := Int.lt_iff_le_and_ne.mpr ⟨g32, fun z => c32 z.symm⟩
      clear c32 g32
      by_cases c33 : zAnd (hI h 1 x3) 63 = 33
      · have hV := hV.1 c33
        refine s_tswIn (tgt := 1013) d_L_law_32 w1 w2 (by rw [c33]; try rfl) (by decide) ?_
        refine s_aload_n d_L_law_1013 rfl (ma 1 rfl) ?_
        refine s_aload_n d_L_law_1014 rfl (ma 0 rfl) ?_
        refine s_iload_n d_L_law_1015 rfl (ma 3 rfl) ?_
        refine s_iconst d_L_law_1016 (okn rfl) ?_
        obtain ⟨o, hV⟩ := hV
        refine s_iadd d_L_law_1017 o ?_
        obtain ⟨o, hV⟩ := hV
        refine s_sld d_L_law_1018 o.1 o.2 ?_
        obtain ⟨o, hV⟩ := hV
        refine v_RL_150 rfl (Nat.le_of_ble_eq_true rfl) d_L_law_1019 o (Nat.le_of_ble_eq_true rfl) hV (fun r130 h129 hV => ?_)
        refine s_aload_n d_L_law_1022 rfl (ma 2 rfl) ?_
        refine s_aload_n d_L_law_1023 rfl (ma 0 rfl) ?_
        refine s_iload_n d_L_law_1024 rfl (ma 3 rfl) ?_
        refine s_iconst d_L_law_1025 (okn rfl) ?_
        obtain ⟨o, hV⟩ := hV
        refine s_iadd d_L_law_1026 o ?_
        obtain ⟨o, hV⟩ := hV
        refine s_sld d_L_law_1027 o.1 o.2 ?_
        obtain ⟨o, hV⟩ := hV
        refine v_RL_153 rfl (Nat.le_of_ble_eq_true rfl) d_L_law_1028 o (Nat.le_of_ble_eq_true rfl) hV (fun r132 h131 hV => ?_)
        refine s_icmp_eq (tgt := 1059) d_L_law_1031 (by decide) (fun c => ?_) (fun c => ?_)
        · have hV := hV.1 c
          obtain ⟨o, hV⟩ := hV
          refine s_iinc (lv' := [(3, .inl (x3 + 4)), (0, .inr (.inr 1)), (1, .inr (.inr x1)), (2, .inr (.inr x2))]) d_L_law_1059 (ma 3 rfl) o (Nat.le_of_ble_eq_true rfl) rfl ?_
          refine s_goto (tgt := 18) d_L_law_1062 (by decide) ?_
          refine s_pick (lv' := [(0, .inr (.inr 1)), (1, .inr (.inr x1)), (2, .inr (.inr x2)), (3, .inl (x3 + 4))]) [1, 2, 3, 0] rfl ?_
          exact hP18 _ _ hV
        · have hV := hV.2 c
          refine s_iconst d_L_law_1034 (okn rfl) ?_
          exact s_iret d_L_law_1035 rfl (nar_z (Or.inl rfl)) ⟨_, rfl, hV⟩
      have hV := hV.2
      have g34 : (34 : Int) ≤ zAnd (hI h 1 x3) 63 := Int.lt_iff_le_and_ne.mpr ⟨g33, fun z => c33 z.symm⟩
      clear c33 g33
      have c34 : zAnd (hI h 1 x3) 63 = 34 := Int.le_antisymm (Int.not_lt.mp w2) g34
      have hV := hV c34
      refine s_tswIn (tgt := 1036) d_L_law_32 w1 w2 (by rw [c34]; try rfl) (by decide) ?_
      refine s_aload_n d_L_law_1036 rfl (ma 1 rfl) ?_
      refine s_aload_n d_L_law_1037 rfl (ma 0 rfl) ?_
      refine s_iload_n d_L_law_1038 rfl (ma 3 rfl) ?_
      refine s_iconst d_L_law_1039 (okn rfl) ?_
      obtain ⟨o, hV⟩ := hV
      refine s_iadd d_L_law_1040 o ?_
      obtain ⟨o, hV⟩ := hV
      refine s_sld d_L_law_1041 o.1 o.2 ?_
      obtain ⟨o, hV⟩ := hV
      refine v_RL_154 rfl (Nat.le_of_ble_eq_true rfl) d_L_law_1042 o (Nat.le_of_ble_eq_true rfl) hV (fun r134 h133 hV => ?_)
      refine s_aload_n d_L_law_1045 rfl (ma 2 rfl) ?_
      refine s_aload_n d_L_law_1046 rfl (ma 0 rfl) ?_
      refine s_iload_n d_L_law_1047 rfl (ma 3 rfl) ?_
      refine s_iconst d_L_law_1048 (okn rfl) ?_
      obtain ⟨o, hV⟩ := hV
      refine s_iadd d_L_law_1049 o ?_
      obtain ⟨o, hV⟩ := hV
      refine s_sld d_L_law_1050 o.1 o.2 ?_
      obtain ⟨o, hV⟩ := hV
      refine v_RL_157 rfl (Nat.le_of_ble_eq_true rfl) d_L_law_1051 o (Nat.le_of_ble_eq_true rfl) hV (fun r136 h135 hV => ?_)
      refine s_icmp_eq (tgt := 1059) d_L_law_1054 (by decide) (fun c => ?_) (fun c => ?_)
      · have hV := hV.1 c
        obtain ⟨o, hV⟩ := hV
        refine s_iinc (lv' := [(3, .inl (x3 + 4)), (0, .inr (.inr 1)), (1, .inr (.inr x1)), (2, .inr (.inr x2))]) d_L_law_1059 (ma 3 rfl) o (Nat.le_of_ble_eq_true rfl) rfl ?_
        refine s_goto (tgt := 18) d_L_law_1062 (by decide) ?_
        refine s_pick (lv' := [(0, .inr (.inr 1)), (1, .inr (.inr x1)), (2, .inr (.inr x2)), (3, .inl (x3 + 4))]) [1, 2, 3, 0] rfl ?_
        exact hP18 _ _ hV
      · have hV := hV.2 c
        refine s_iconst d_L_law_1057 (okn rfl) ?_
        exact s_iret d_L_law_1058 rfl (nar_z (Or.inl rfl)) ⟨_, rfl, hV⟩
def V_L_law (h : Hp) (Q : Int → Hp → Prop) : Prop :=
  ∀ n1 : Nat, n1 = hN h → ∀ h2 : Hp, h2 = al h 10 0 12 → (hK h2 n1 = 10 ∧ C_X11_init n1  h2 (fun h3 => (∀ n4 : Nat, n4 = hN h3 → ∀ h5 : Hp, h5 = al h3 11 0 40 → (hK h5 n4 = 11 ∧ C_X12_init n4  h5 (fun h6 => (Lp_L_law_18 n1 n4 0 h6 Q))))))
theorem G_L_law (h : Hp) (Q : Int → Hp → Prop) (hV : V_L_law h Q) : C_L_law h Q := by
  unfold V_L_law at hV
  show Go i_L_law 0 [(0, .inr (.inr 1))] [] h (qI Q)
  refine s_new (ci := 10) d_L_law_0 rfl q_RL_7 ?_
  refine s_nmA (fun n1 en1 => ?_)
  refine s_nmH (fun h2 eh2 => ?_)
  have hV := hV n1 en1 h2 eh2
  refine s_dup d_L_law_3 rfl ?_
  obtain ⟨o, hV⟩ := hV
  refine v_RL_9 rfl (Nat.le_of_ble_eq_true rfl) d_L_law_4 o (Nat.le_of_ble_eq_true rfl) hV (fun h3 hV => ?_)
  refine s_astore_n (lv' := [(1, .inr (.inr n1)), (0, .inr (.inr 1))]) d_L_law_7 rfl (Nat.le_of_ble_eq_true rfl) rfl ?_
  refine s_new (ci := 11) d_L_law_8 rfl q_RL_10 ?_
  refine s_nmA (fun n4 en4 => ?_)
  refine s_nmH (fun h5 eh5 => ?_)
  have hV := hV n4 en4 h5 eh5
  refine s_dup d_L_law_11 rfl ?_
  obtain ⟨o, hV⟩ := hV
  refine v_RL_12 rfl (Nat.le_of_ble_eq_true rfl) d_L_law_12 o (Nat.le_of_ble_eq_true rfl) hV (fun h6 hV => ?_)
  refine s_astore_n (lv' := [(2, .inr (.inr n4)), (1, .inr (.inr n1)), (0, .inr (.inr 1))]) d_L_law_15 rfl (Nat.le_of_ble_eq_true rfl) rfl ?_
  refine s_iconst d_L_law_16 (okn rfl) ?_
  refine s_istore_n (lv' := [(3, .inl 0), (2, .inr (.inr n4)), (1, .inr (.inr n1)), (0, .inr (.inr 1))]) d_L_law_17 rfl (Nat.le_of_ble_eq_true rfl) rfl ?_
  refine s_pick (lv' := [(0, .inr (.inr 1)), (1, .inr (.inr n1)), (2, .inr (.inr n4)), (3, .inl 0)]) [3, 2, 1, 0] rfl ?_
  exact GLp_L_law_18 _ _ _ _ _ hV
