theorem dL_law_0 : decode cL_law 0 = Except.ok (Instr.new 7, 3) := by decide +kernel
theorem dL_law_3 : decode cL_law 3 = Except.ok (Instr.dup, 1) := by decide +kernel
theorem dL_law_4 : decode cL_law 4 = Except.ok (Instr.invokespecial 9, 3) := by decide +kernel
theorem dL_law_7 : decode cL_law 7 = Except.ok (Instr.astore_n 1, 1) := by decide +kernel
theorem dL_law_8 : decode cL_law 8 = Except.ok (Instr.new 10, 3) := by decide +kernel
theorem dL_law_11 : decode cL_law 11 = Except.ok (Instr.dup, 1) := by decide +kernel
theorem dL_law_12 : decode cL_law 12 = Except.ok (Instr.invokespecial 12, 3) := by decide +kernel
theorem dL_law_15 : decode cL_law 15 = Except.ok (Instr.astore_n 2, 1) := by decide +kernel
theorem dL_law_16 : decode cL_law 16 = Except.ok (Instr.iconst 0, 1) := by decide +kernel
theorem dL_law_17 : decode cL_law 17 = Except.ok (Instr.istore_n 3, 1) := by decide +kernel
theorem dL_law_18 : decode cL_law 18 = Except.ok (Instr.iload_n 3, 1) := by decide +kernel
theorem dL_law_19 : decode cL_law 19 = Except.ok (Instr.aload_n 0, 1) := by decide +kernel
theorem dL_law_20 : decode cL_law 20 = Except.ok (Instr.arraylength, 1) := by decide +kernel
theorem dL_law_21 : decode cL_law 21 = Except.ok (Instr.bipush 6, 2) := by decide +kernel
theorem dL_law_23 : decode cL_law 23 = Except.ok (Instr.isub, 1) := by decide +kernel
theorem dL_law_24 : decode cL_law 24 = Except.ok (Instr.if_icmp .gt 1187, 3) := by decide +kernel
theorem dL_law_27 : decode cL_law 27 = Except.ok (Instr.aload_n 0, 1) := by decide +kernel
theorem dL_law_28 : decode cL_law 28 = Except.ok (Instr.iload_n 3, 1) := by decide +kernel
theorem dL_law_29 : decode cL_law 29 = Except.ok (Instr.iaload, 1) := by decide +kernel
theorem dL_law_30 : decode cL_law 30 = Except.ok (Instr.bipush 63, 2) := by decide +kernel
theorem dL_law_32 : decode cL_law 32 = Except.ok (Instr.iand, 1) := by decide +kernel
theorem dL_law_33 : decode cL_law 33 = Except.ok (Instr.tableswitch 1172 0 37 #[167, 230, 263, 296, 319, 342, 395, 408, 421, 464, 487, 500, 524, 548, 571, 594, 617, 640, 653, 677, 720, 733, 766, 789, 832, 856, 880, 894, 908, 922, 976, 1030, 1043, 1066, 1089, 1112, 1136, 1159], 167) := by decide +kernel
theorem dL_law_200 : decode cL_law 200 = Except.ok (Instr.aload_n 1, 1) := by decide +kernel
theorem dL_law_201 : decode cL_law 201 = Except.ok (Instr.aload_n 0, 1) := by decide +kernel
theorem dL_law_202 : decode cL_law 202 = Except.ok (Instr.iload_n 3, 1) := by decide +kernel
theorem dL_law_203 : decode cL_law 203 = Except.ok (Instr.iconst 1, 1) := by decide +kernel
theorem dL_law_204 : decode cL_law 204 = Except.ok (Instr.iadd, 1) := by decide +kernel
theorem dL_law_205 : decode cL_law 205 = Except.ok (Instr.iaload, 1) := by decide +kernel
theorem dL_law_206 : decode cL_law 206 = Except.ok (Instr.aload_n 0, 1) := by decide +kernel
theorem dL_law_207 : decode cL_law 207 = Except.ok (Instr.iload_n 3, 1) := by decide +kernel
theorem dL_law_208 : decode cL_law 208 = Except.ok (Instr.iconst 2, 1) := by decide +kernel
theorem dL_law_209 : decode cL_law 209 = Except.ok (Instr.iadd, 1) := by decide +kernel
theorem dL_law_210 : decode cL_law 210 = Except.ok (Instr.iaload, 1) := by decide +kernel
theorem dL_law_211 : decode cL_law 211 = Except.ok (Instr.aload_n 0, 1) := by decide +kernel
theorem dL_law_212 : decode cL_law 212 = Except.ok (Instr.iload_n 3, 1) := by decide +kernel
theorem dL_law_213 : decode cL_law 213 = Except.ok (Instr.iconst 3, 1) := by decide +kernel
theorem dL_law_214 : decode cL_law 214 = Except.ok (Instr.iadd, 1) := by decide +kernel
theorem dL_law_215 : decode cL_law 215 = Except.ok (Instr.iaload, 1) := by decide +kernel
theorem dL_law_216 : decode cL_law 216 = Except.ok (Instr.aload_n 0, 1) := by decide +kernel
theorem dL_law_217 : decode cL_law 217 = Except.ok (Instr.iload_n 3, 1) := by decide +kernel
theorem dL_law_218 : decode cL_law 218 = Except.ok (Instr.iconst 4, 1) := by decide +kernel
theorem dL_law_219 : decode cL_law 219 = Except.ok (Instr.iadd, 1) := by decide +kernel
theorem dL_law_220 : decode cL_law 220 = Except.ok (Instr.iaload, 1) := by decide +kernel
theorem dL_law_221 : decode cL_law 221 = Except.ok (Instr.aload_n 0, 1) := by decide +kernel
theorem dL_law_222 : decode cL_law 222 = Except.ok (Instr.iload_n 3, 1) := by decide +kernel
theorem dL_law_223 : decode cL_law 223 = Except.ok (Instr.iconst 5, 1) := by decide +kernel
theorem dL_law_224 : decode cL_law 224 = Except.ok (Instr.iadd, 1) := by decide +kernel
theorem dL_law_225 : decode cL_law 225 = Except.ok (Instr.iaload, 1) := by decide +kernel
theorem dL_law_226 : decode cL_law 226 = Except.ok (Instr.invokevirtual 13, 3) := by decide +kernel
theorem dL_law_229 : decode cL_law 229 = Except.ok (Instr.aload_n 2, 1) := by decide +kernel
theorem dL_law_230 : decode cL_law 230 = Except.ok (Instr.aload_n 0, 1) := by decide +kernel
theorem dL_law_231 : decode cL_law 231 = Except.ok (Instr.iload_n 3, 1) := by decide +kernel
theorem dL_law_232 : decode cL_law 232 = Except.ok (Instr.iconst 1, 1) := by decide +kernel
theorem dL_law_233 : decode cL_law 233 = Except.ok (Instr.iadd, 1) := by decide +kernel
theorem dL_law_234 : decode cL_law 234 = Except.ok (Instr.iaload, 1) := by decide +kernel
theorem dL_law_235 : decode cL_law 235 = Except.ok (Instr.aload_n 0, 1) := by decide +kernel
theorem dL_law_236 : decode cL_law 236 = Except.ok (Instr.iload_n 3, 1) := by decide +kernel
theorem dL_law_237 : decode cL_law 237 = Except.ok (Instr.iconst 2, 1) := by decide +kernel
theorem dL_law_238 : decode cL_law 238 = Except.ok (Instr.iadd, 1) := by decide +kernel
theorem dL_law_239 : decode cL_law 239 = Except.ok (Instr.iaload, 1) := by decide +kernel
theorem dL_law_240 : decode cL_law 240 = Except.ok (Instr.aload_n 0, 1) := by decide +kernel
theorem dL_law_241 : decode cL_law 241 = Except.ok (Instr.iload_n 3, 1) := by decide +kernel
theorem dL_law_242 : decode cL_law 242 = Except.ok (Instr.iconst 3, 1) := by decide +kernel
theorem dL_law_243 : decode cL_law 243 = Except.ok (Instr.iadd, 1) := by decide +kernel
theorem dL_law_244 : decode cL_law 244 = Except.ok (Instr.iaload, 1) := by decide +kernel
theorem dL_law_245 : decode cL_law 245 = Except.ok (Instr.aload_n 0, 1) := by decide +kernel
theorem dL_law_246 : decode cL_law 246 = Except.ok (Instr.iload_n 3, 1) := by decide +kernel
theorem dL_law_247 : decode cL_law 247 = Except.ok (Instr.iconst 4, 1) := by decide +kernel
theorem dL_law_248 : decode cL_law 248 = Except.ok (Instr.iadd, 1) := by decide +kernel
theorem dL_law_249 : decode cL_law 249 = Except.ok (Instr.iaload, 1) := by decide +kernel
theorem dL_law_250 : decode cL_law 250 = Except.ok (Instr.aload_n 0, 1) := by decide +kernel
theorem dL_law_251 : decode cL_law 251 = Except.ok (Instr.iload_n 3, 1) := by decide +kernel
theorem dL_law_252 : decode cL_law 252 = Except.ok (Instr.iconst 5, 1) := by decide +kernel
theorem dL_law_253 : decode cL_law 253 = Except.ok (Instr.iadd, 1) := by decide +kernel
theorem dL_law_254 : decode cL_law 254 = Except.ok (Instr.iaload, 1) := by decide +kernel
theorem dL_law_255 : decode cL_law 255 = Except.ok (Instr.invokevirtual 17, 3) := by decide +kernel
theorem dL_law_258 : decode cL_law 258 = Except.ok (Instr.if_icmp .eq 947, 3) := by decide +kernel
theorem dL_law_261 : decode cL_law 261 = Except.ok (Instr.iconst 0, 1) := by decide +kernel
theorem dL_law_262 : decode cL_law 262 = Except.ok (Instr.ireturn, 1) := by decide +kernel
theorem dL_law_263 : decode cL_law 263 = Except.ok (Instr.aload_n 1, 1) := by decide +kernel
theorem dL_law_264 : decode cL_law 264 = Except.ok (Instr.aload_n 0, 1) := by decide +kernel
theorem dL_law_265 : decode cL_law 265 = Except.ok (Instr.iload_n 3, 1) := by decide +kernel
theorem dL_law_266 : decode cL_law 266 = Except.ok (Instr.iconst 1, 1) := by decide +kernel
theorem dL_law_267 : decode cL_law 267 = Except.ok (Instr.iadd, 1) := by decide +kernel
theorem dL_law_268 : decode cL_law 268 = Except.ok (Instr.iaload, 1) := by decide +kernel
theorem dL_law_269 : decode cL_law 269 = Except.ok (Instr.aload_n 0, 1) := by decide +kernel
theorem dL_law_270 : decode cL_law 270 = Except.ok (Instr.iload_n 3, 1) := by decide +kernel
theorem dL_law_271 : decode cL_law 271 = Except.ok (Instr.iconst 2, 1) := by decide +kernel
theorem dL_law_272 : decode cL_law 272 = Except.ok (Instr.iadd, 1) := by decide +kernel
theorem dL_law_273 : decode cL_law 273 = Except.ok (Instr.iaload, 1) := by decide +kernel
theorem dL_law_274 : decode cL_law 274 = Except.ok (Instr.invokevirtual 18, 3) := by decide +kernel
theorem dL_law_277 : decode cL_law 277 = Except.ok (Instr.aload_n 2, 1) := by decide +kernel
theorem dL_law_278 : decode cL_law 278 = Except.ok (Instr.aload_n 0, 1) := by decide +kernel
theorem dL_law_279 : decode cL_law 279 = Except.ok (Instr.iload_n 3, 1) := by decide +kernel
theorem dL_law_280 : decode cL_law 280 = Except.ok (Instr.iconst 1, 1) := by decide +kernel
theorem dL_law_281 : decode cL_law 281 = Except.ok (Instr.iadd, 1) := by decide +kernel
theorem dL_law_282 : decode cL_law 282 = Except.ok (Instr.iaload, 1) := by decide +kernel
theorem dL_law_283 : decode cL_law 283 = Except.ok (Instr.aload_n 0, 1) := by decide +kernel
theorem dL_law_284 : decode cL_law 284 = Except.ok (Instr.iload_n 3, 1) := by decide +kernel
theorem dL_law_285 : decode cL_law 285 = Except.ok (Instr.iconst 2, 1) := by decide +kernel
theorem dL_law_286 : decode cL_law 286 = Except.ok (Instr.iadd, 1) := by decide +kernel
theorem dL_law_287 : decode cL_law 287 = Except.ok (Instr.iaload, 1) := by decide +kernel
theorem dL_law_288 : decode cL_law 288 = Except.ok (Instr.invokevirtual 22, 3) := by decide +kernel
theorem dL_law_291 : decode cL_law 291 = Except.ok (Instr.if_icmp .eq 914, 3) := by decide +kernel
theorem dL_law_294 : decode cL_law 294 = Except.ok (Instr.iconst 0, 1) := by decide +kernel
theorem dL_law_295 : decode cL_law 295 = Except.ok (Instr.ireturn, 1) := by decide +kernel
theorem dL_law_296 : decode cL_law 296 = Except.ok (Instr.aload_n 1, 1) := by decide +kernel
theorem dL_law_297 : decode cL_law 297 = Except.ok (Instr.aload_n 0, 1) := by decide +kernel
theorem dL_law_298 : decode cL_law 298 = Except.ok (Instr.iload_n 3, 1) := by decide +kernel
theorem dL_law_299 : decode cL_law 299 = Except.ok (Instr.iconst 1, 1) := by decide +kernel
theorem dL_law_300 : decode cL_law 300 = Except.ok (Instr.iadd, 1) := by decide +kernel
theorem dL_law_301 : decode cL_law 301 = Except.ok (Instr.iaload, 1) := by decide +kernel
theorem dL_law_302 : decode cL_law 302 = Except.ok (Instr.aload_n 0, 1) := by decide +kernel
theorem dL_law_303 : decode cL_law 303 = Except.ok (Instr.iload_n 3, 1) := by decide +kernel
theorem dL_law_304 : decode cL_law 304 = Except.ok (Instr.iconst 2, 1) := by decide +kernel
theorem dL_law_305 : decode cL_law 305 = Except.ok (Instr.iadd, 1) := by decide +kernel
theorem dL_law_306 : decode cL_law 306 = Except.ok (Instr.iaload, 1) := by decide +kernel
theorem dL_law_307 : decode cL_law 307 = Except.ok (Instr.invokevirtual 23, 3) := by decide +kernel
theorem dL_law_310 : decode cL_law 310 = Except.ok (Instr.aload_n 2, 1) := by decide +kernel
theorem dL_law_311 : decode cL_law 311 = Except.ok (Instr.aload_n 0, 1) := by decide +kernel
theorem dL_law_312 : decode cL_law 312 = Except.ok (Instr.iload_n 3, 1) := by decide +kernel
theorem dL_law_313 : decode cL_law 313 = Except.ok (Instr.iconst 1, 1) := by decide +kernel
theorem dL_law_314 : decode cL_law 314 = Except.ok (Instr.iadd, 1) := by decide +kernel
theorem dL_law_315 : decode cL_law 315 = Except.ok (Instr.iaload, 1) := by decide +kernel
theorem dL_law_316 : decode cL_law 316 = Except.ok (Instr.aload_n 0, 1) := by decide +kernel
theorem dL_law_317 : decode cL_law 317 = Except.ok (Instr.iload_n 3, 1) := by decide +kernel
theorem dL_law_318 : decode cL_law 318 = Except.ok (Instr.iconst 2, 1) := by decide +kernel
theorem dL_law_319 : decode cL_law 319 = Except.ok (Instr.iadd, 1) := by decide +kernel
theorem dL_law_320 : decode cL_law 320 = Except.ok (Instr.iaload, 1) := by decide +kernel
theorem dL_law_321 : decode cL_law 321 = Except.ok (Instr.invokevirtual 26, 3) := by decide +kernel
theorem dL_law_324 : decode cL_law 324 = Except.ok (Instr.if_icmp .eq 881, 3) := by decide +kernel
theorem dL_law_327 : decode cL_law 327 = Except.ok (Instr.iconst 0, 1) := by decide +kernel
theorem dL_law_328 : decode cL_law 328 = Except.ok (Instr.ireturn, 1) := by decide +kernel
theorem dL_law_329 : decode cL_law 329 = Except.ok (Instr.aload_n 1, 1) := by decide +kernel
theorem dL_law_330 : decode cL_law 330 = Except.ok (Instr.aload_n 0, 1) := by decide +kernel
theorem dL_law_331 : decode cL_law 331 = Except.ok (Instr.iload_n 3, 1) := by decide +kernel
theorem dL_law_332 : decode cL_law 332 = Except.ok (Instr.iconst 1, 1) := by decide +kernel
theorem dL_law_333 : decode cL_law 333 = Except.ok (Instr.iadd, 1) := by decide +kernel
theorem dL_law_334 : decode cL_law 334 = Except.ok (Instr.iaload, 1) := by decide +kernel
theorem dL_law_335 : decode cL_law 335 = Except.ok (Instr.invokevirtual 27, 3) := by decide +kernel
theorem dL_law_338 : decode cL_law 338 = Except.ok (Instr.aload_n 2, 1) := by decide +kernel
theorem dL_law_339 : decode cL_law 339 = Except.ok (Instr.aload_n 0, 1) := by decide +kernel
theorem dL_law_340 : decode cL_law 340 = Except.ok (Instr.iload_n 3, 1) := by decide +kernel
theorem dL_law_341 : decode cL_law 341 = Except.ok (Instr.iconst 1, 1) := by decide +kernel
theorem dL_law_342 : decode cL_law 342 = Except.ok (Instr.iadd, 1) := by decide +kernel
theorem dL_law_343 : decode cL_law 343 = Except.ok (Instr.iaload, 1) := by decide +kernel
theorem dL_law_344 : decode cL_law 344 = Except.ok (Instr.invokevirtual 31, 3) := by decide +kernel
theorem dL_law_347 : decode cL_law 347 = Except.ok (Instr.if_icmp .eq 858, 3) := by decide +kernel
theorem dL_law_350 : decode cL_law 350 = Except.ok (Instr.iconst 0, 1) := by decide +kernel
theorem dL_law_351 : decode cL_law 351 = Except.ok (Instr.ireturn, 1) := by decide +kernel
theorem dL_law_352 : decode cL_law 352 = Except.ok (Instr.aload_n 1, 1) := by decide +kernel
theorem dL_law_353 : decode cL_law 353 = Except.ok (Instr.aload_n 0, 1) := by decide +kernel
theorem dL_law_354 : decode cL_law 354 = Except.ok (Instr.iload_n 3, 1) := by decide +kernel
theorem dL_law_355 : decode cL_law 355 = Except.ok (Instr.iconst 1, 1) := by decide +kernel
theorem dL_law_356 : decode cL_law 356 = Except.ok (Instr.iadd, 1) := by decide +kernel
theorem dL_law_357 : decode cL_law 357 = Except.ok (Instr.iaload, 1) := by decide +kernel
theorem dL_law_358 : decode cL_law 358 = Except.ok (Instr.invokevirtual 32, 3) := by decide +kernel
theorem dL_law_361 : decode cL_law 361 = Except.ok (Instr.aload_n 2, 1) := by decide +kernel
theorem dL_law_362 : decode cL_law 362 = Except.ok (Instr.aload_n 0, 1) := by decide +kernel
theorem dL_law_363 : decode cL_law 363 = Except.ok (Instr.iload_n 3, 1) := by decide +kernel
theorem dL_law_364 : decode cL_law 364 = Except.ok (Instr.iconst 1, 1) := by decide +kernel
theorem dL_law_365 : decode cL_law 365 = Except.ok (Instr.iadd, 1) := by decide +kernel
theorem dL_law_366 : decode cL_law 366 = Except.ok (Instr.iaload, 1) := by decide +kernel
theorem dL_law_367 : decode cL_law 367 = Except.ok (Instr.invokevirtual 35, 3) := by decide +kernel
theorem dL_law_370 : decode cL_law 370 = Except.ok (Instr.if_icmp .eq 835, 3) := by decide +kernel
theorem dL_law_373 : decode cL_law 373 = Except.ok (Instr.iconst 0, 1) := by decide +kernel
theorem dL_law_374 : decode cL_law 374 = Except.ok (Instr.ireturn, 1) := by decide +kernel
theorem dL_law_375 : decode cL_law 375 = Except.ok (Instr.aload_n 1, 1) := by decide +kernel
theorem dL_law_376 : decode cL_law 376 = Except.ok (Instr.aload_n 0, 1) := by decide +kernel
theorem dL_law_377 : decode cL_law 377 = Except.ok (Instr.iload_n 3, 1) := by decide +kernel
theorem dL_law_378 : decode cL_law 378 = Except.ok (Instr.iconst 1, 1) := by decide +kernel
theorem dL_law_379 : decode cL_law 379 = Except.ok (Instr.iadd, 1) := by decide +kernel
theorem dL_law_380 : decode cL_law 380 = Except.ok (Instr.iaload, 1) := by decide +kernel
theorem dL_law_381 : decode cL_law 381 = Except.ok (Instr.aload_n 0, 1) := by decide +kernel
theorem dL_law_382 : decode cL_law 382 = Except.ok (Instr.iload_n 3, 1) := by decide +kernel
theorem dL_law_383 : decode cL_law 383 = Except.ok (Instr.iconst 2, 1) := by decide +kernel
theorem dL_law_384 : decode cL_law 384 = Except.ok (Instr.iadd, 1) := by decide +kernel
theorem dL_law_385 : decode cL_law 385 = Except.ok (Instr.iaload, 1) := by decide +kernel
theorem dL_law_386 : decode cL_law 386 = Except.ok (Instr.aload_n 0, 1) := by decide +kernel
theorem dL_law_387 : decode cL_law 387 = Except.ok (Instr.iload_n 3, 1) := by decide +kernel
theorem dL_law_388 : decode cL_law 388 = Except.ok (Instr.iconst 3, 1) := by decide +kernel
theorem dL_law_389 : decode cL_law 389 = Except.ok (Instr.iadd, 1) := by decide +kernel
theorem dL_law_390 : decode cL_law 390 = Except.ok (Instr.iaload, 1) := by decide +kernel
theorem dL_law_391 : decode cL_law 391 = Except.ok (Instr.aload_n 0, 1) := by decide +kernel
theorem dL_law_392 : decode cL_law 392 = Except.ok (Instr.iload_n 3, 1) := by decide +kernel
theorem dL_law_393 : decode cL_law 393 = Except.ok (Instr.iconst 4, 1) := by decide +kernel
theorem dL_law_394 : decode cL_law 394 = Except.ok (Instr.iadd, 1) := by decide +kernel
theorem dL_law_395 : decode cL_law 395 = Except.ok (Instr.iaload, 1) := by decide +kernel
theorem dL_law_396 : decode cL_law 396 = Except.ok (Instr.invokevirtual 36, 3) := by decide +kernel
theorem dL_law_399 : decode cL_law 399 = Except.ok (Instr.aload_n 2, 1) := by decide +kernel
theorem dL_law_400 : decode cL_law 400 = Except.ok (Instr.aload_n 0, 1) := by decide +kernel
theorem dL_law_401 : decode cL_law 401 = Except.ok (Instr.iload_n 3, 1) := by decide +kernel
theorem dL_law_402 : decode cL_law 402 = Except.ok (Instr.iconst 1, 1) := by decide +kernel
theorem dL_law_403 : decode cL_law 403 = Except.ok (Instr.iadd, 1) := by decide +kernel
theorem dL_law_404 : decode cL_law 404 = Except.ok (Instr.iaload, 1) := by decide +kernel
theorem dL_law_405 : decode cL_law 405 = Except.ok (Instr.aload_n 0, 1) := by decide +kernel
theorem dL_law_406 : decode cL_law 406 = Except.ok (Instr.iload_n 3, 1) := by decide +kernel
theorem dL_law_407 : decode cL_law 407 = Except.ok (Instr.iconst 2, 1) := by decide +kernel
theorem dL_law_408 : decode cL_law 408 = Except.ok (Instr.iadd, 1) := by decide +kernel
theorem dL_law_409 : decode cL_law 409 = Except.ok (Instr.iaload, 1) := by decide +kernel
theorem dL_law_410 : decode cL_law 410 = Except.ok (Instr.aload_n 0, 1) := by decide +kernel
theorem dL_law_411 : decode cL_law 411 = Except.ok (Instr.iload_n 3, 1) := by decide +kernel
theorem dL_law_412 : decode cL_law 412 = Except.ok (Instr.iconst 3, 1) := by decide +kernel
theorem dL_law_413 : decode cL_law 413 = Except.ok (Instr.iadd, 1) := by decide +kernel
theorem dL_law_414 : decode cL_law 414 = Except.ok (Instr.iaload, 1) := by decide +kernel
theorem dL_law_415 : decode cL_law 415 = Except.ok (Instr.aload_n 0, 1) := by decide +kernel
theorem dL_law_416 : decode cL_law 416 = Except.ok (Instr.iload_n 3, 1) := by decide +kernel
theorem dL_law_417 : decode cL_law 417 = Except.ok (Instr.iconst 4, 1) := by decide +kernel
theorem dL_law_418 : decode cL_law 418 = Except.ok (Instr.iadd, 1) := by decide +kernel
theorem dL_law_419 : decode cL_law 419 = Except.ok (Instr.iaload, 1) := by decide +kernel
theorem dL_law_420 : decode cL_law 420 = Except.ok (Instr.invokevirtual 40, 3) := by decide +kernel
theorem dL_law_423 : decode cL_law 423 = Except.ok (Instr.if_icmp .eq 782, 3) := by decide +kernel
theorem dL_law_426 : decode cL_law 426 = Except.ok (Instr.iconst 0, 1) := by decide +kernel
theorem dL_law_427 : decode cL_law 427 = Except.ok (Instr.ireturn, 1) := by decide +kernel
theorem dL_law_428 : decode cL_law 428 = Except.ok (Instr.aload_n 1, 1) := by decide +kernel
theorem dL_law_429 : decode cL_law 429 = Except.ok (Instr.invokevirtual 41, 3) := by decide +kernel
theorem dL_law_432 : decode cL_law 432 = Except.ok (Instr.aload_n 2, 1) := by decide +kernel
theorem dL_law_433 : decode cL_law 433 = Except.ok (Instr.invokevirtual 45, 3) := by decide +kernel
theorem dL_law_436 : decode cL_law 436 = Except.ok (Instr.if_icmp .eq 769, 3) := by decide +kernel
theorem dL_law_439 : decode cL_law 439 = Except.ok (Instr.iconst 0, 1) := by decide +kernel
theorem dL_law_440 : decode cL_law 440 = Except.ok (Instr.ireturn, 1) := by decide +kernel
theorem dL_law_441 : decode cL_law 441 = Except.ok (Instr.aload_n 1, 1) := by decide +kernel
theorem dL_law_442 : decode cL_law 442 = Except.ok (Instr.invokevirtual 46, 3) := by decide +kernel
theorem dL_law_445 : decode cL_law 445 = Except.ok (Instr.aload_n 2, 1) := by decide +kernel
theorem dL_law_446 : decode cL_law 446 = Except.ok (Instr.invokevirtual 49, 3) := by decide +kernel
theorem dL_law_449 : decode cL_law 449 = Except.ok (Instr.if_icmp .eq 756, 3) := by decide +kernel
theorem dL_law_452 : decode cL_law 452 = Except.ok (Instr.iconst 0, 1) := by decide +kernel
theorem dL_law_453 : decode cL_law 453 = Except.ok (Instr.ireturn, 1) := by decide +kernel
theorem dL_law_454 : decode cL_law 454 = Except.ok (Instr.aload_n 1, 1) := by decide +kernel
theorem dL_law_455 : decode cL_law 455 = Except.ok (Instr.aload_n 0, 1) := by decide +kernel
theorem dL_law_456 : decode cL_law 456 = Except.ok (Instr.iload_n 3, 1) := by decide +kernel
theorem dL_law_457 : decode cL_law 457 = Except.ok (Instr.iconst 1, 1) := by decide +kernel
theorem dL_law_458 : decode cL_law 458 = Except.ok (Instr.iadd, 1) := by decide +kernel
theorem dL_law_459 : decode cL_law 459 = Except.ok (Instr.iaload, 1) := by decide +kernel
theorem dL_law_460 : decode cL_law 460 = Except.ok (Instr.aload_n 0, 1) := by decide +kernel
theorem dL_law_461 : decode cL_law 461 = Except.ok (Instr.iload_n 3, 1) := by decide +kernel
theorem dL_law_462 : decode cL_law 462 = Except.ok (Instr.iconst 2, 1) := by decide +kernel
theorem dL_law_463 : decode cL_law 463 = Except.ok (Instr.iadd, 1) := by decide +kernel
theorem dL_law_464 : decode cL_law 464 = Except.ok (Instr.iaload, 1) := by decide +kernel
theorem dL_law_465 : decode cL_law 465 = Except.ok (Instr.aload_n 0, 1) := by decide +kernel
theorem dL_law_466 : decode cL_law 466 = Except.ok (Instr.iload_n 3, 1) := by decide +kernel
theorem dL_law_467 : decode cL_law 467 = Except.ok (Instr.iconst 3, 1) := by decide +kernel
theorem dL_law_468 : decode cL_law 468 = Except.ok (Instr.iadd, 1) := by decide +kernel
theorem dL_law_469 : decode cL_law 469 = Except.ok (Instr.iaload, 1) := by decide +kernel
theorem dL_law_470 : decode cL_law 470 = Except.ok (Instr.invokevirtual 50, 3) := by decide +kernel
theorem dL_law_473 : decode cL_law 473 = Except.ok (Instr.aload_n 2, 1) := by decide +kernel
theorem dL_law_474 : decode cL_law 474 = Except.ok (Instr.aload_n 0, 1) := by decide +kernel
theorem dL_law_475 : decode cL_law 475 = Except.ok (Instr.iload_n 3, 1) := by decide +kernel
theorem dL_law_476 : decode cL_law 476 = Except.ok (Instr.iconst 1, 1) := by decide +kernel
theorem dL_law_477 : decode cL_law 477 = Except.ok (Instr.iadd, 1) := by decide +kernel
theorem dL_law_478 : decode cL_law 478 = Except.ok (Instr.iaload, 1) := by decide +kernel
theorem dL_law_479 : decode cL_law 479 = Except.ok (Instr.aload_n 0, 1) := by decide +kernel
theorem dL_law_480 : decode cL_law 480 = Except.ok (Instr.iload_n 3, 1) := by decide +kernel
theorem dL_law_481 : decode cL_law 481 = Except.ok (Instr.iconst 2, 1) := by decide +kernel
theorem dL_law_482 : decode cL_law 482 = Except.ok (Instr.iadd, 1) := by decide +kernel
theorem dL_law_483 : decode cL_law 483 = Except.ok (Instr.iaload, 1) := by decide +kernel
theorem dL_law_484 : decode cL_law 484 = Except.ok (Instr.aload_n 0, 1) := by decide +kernel
theorem dL_law_485 : decode cL_law 485 = Except.ok (Instr.iload_n 3, 1) := by decide +kernel
theorem dL_law_486 : decode cL_law 486 = Except.ok (Instr.iconst 3, 1) := by decide +kernel
theorem dL_law_487 : decode cL_law 487 = Except.ok (Instr.iadd, 1) := by decide +kernel
theorem dL_law_488 : decode cL_law 488 = Except.ok (Instr.iaload, 1) := by decide +kernel
theorem dL_law_489 : decode cL_law 489 = Except.ok (Instr.invokevirtual 54, 3) := by decide +kernel
theorem dL_law_492 : decode cL_law 492 = Except.ok (Instr.if_icmp .eq 713, 3) := by decide +kernel
theorem dL_law_495 : decode cL_law 495 = Except.ok (Instr.iconst 0, 1) := by decide +kernel
theorem dL_law_496 : decode cL_law 496 = Except.ok (Instr.ireturn, 1) := by decide +kernel
theorem dL_law_497 : decode cL_law 497 = Except.ok (Instr.aload_n 1, 1) := by decide +kernel
theorem dL_law_498 : decode cL_law 498 = Except.ok (Instr.aload_n 0, 1) := by decide +kernel
theorem dL_law_499 : decode cL_law 499 = Except.ok (Instr.iload_n 3, 1) := by decide +kernel
theorem dL_law_500 : decode cL_law 500 = Except.ok (Instr.iconst 1, 1) := by decide +kernel
theorem dL_law_501 : decode cL_law 501 = Except.ok (Instr.iadd, 1) := by decide +kernel
theorem dL_law_502 : decode cL_law 502 = Except.ok (Instr.iaload, 1) := by decide +kernel
theorem dL_law_503 : decode cL_law 503 = Except.ok (Instr.invokevirtual 55, 3) := by decide +kernel
theorem dL_law_506 : decode cL_law 506 = Except.ok (Instr.aload_n 2, 1) := by decide +kernel
theorem dL_law_507 : decode cL_law 507 = Except.ok (Instr.aload_n 0, 1) := by decide +kernel
theorem dL_law_508 : decode cL_law 508 = Except.ok (Instr.iload_n 3, 1) := by decide +kernel
theorem dL_law_509 : decode cL_law 509 = Except.ok (Instr.iconst 1, 1) := by decide +kernel
theorem dL_law_510 : decode cL_law 510 = Except.ok (Instr.iadd, 1) := by decide +kernel
theorem dL_law_511 : decode cL_law 511 = Except.ok (Instr.iaload, 1) := by decide +kernel
theorem dL_law_512 : decode cL_law 512 = Except.ok (Instr.invokevirtual 58, 3) := by decide +kernel
theorem dL_law_515 : decode cL_law 515 = Except.ok (Instr.if_icmp .eq 690, 3) := by decide +kernel
theorem dL_law_518 : decode cL_law 518 = Except.ok (Instr.iconst 0, 1) := by decide +kernel
theorem dL_law_519 : decode cL_law 519 = Except.ok (Instr.ireturn, 1) := by decide +kernel
theorem dL_law_520 : decode cL_law 520 = Except.ok (Instr.aload_n 1, 1) := by decide +kernel
theorem dL_law_521 : decode cL_law 521 = Except.ok (Instr.invokevirtual 59, 3) := by decide +kernel
theorem dL_law_524 : decode cL_law 524 = Except.ok (Instr.aload_n 2, 1) := by decide +kernel
theorem dL_law_525 : decode cL_law 525 = Except.ok (Instr.invokevirtual 62, 3) := by decide +kernel
theorem dL_law_528 : decode cL_law 528 = Except.ok (Instr.if_icmp .eq 677, 3) := by decide +kernel
theorem dL_law_531 : decode cL_law 531 = Except.ok (Instr.iconst 0, 1) := by decide +kernel
theorem dL_law_532 : decode cL_law 532 = Except.ok (Instr.ireturn, 1) := by decide +kernel
theorem dL_law_533 : decode cL_law 533 = Except.ok (Instr.aload_n 1, 1) := by decide +kernel
theorem dL_law_534 : decode cL_law 534 = Except.ok (Instr.aload_n 0, 1) := by decide +kernel
theorem dL_law_535 : decode cL_law 535 = Except.ok (Instr.iload_n 3, 1) := by decide +kernel
theorem dL_law_536 : decode cL_law 536 = Except.ok (Instr.iconst 1, 1) := by decide +kernel
theorem dL_law_537 : decode cL_law 537 = Except.ok (Instr.iadd, 1) := by decide +kernel
theorem dL_law_538 : decode cL_law 538 = Except.ok (Instr.iaload, 1) := by decide +kernel
theorem dL_law_539 : decode cL_law 539 = Except.ok (Instr.invokevirtual 63, 3) := by decide +kernel
theorem dL_law_542 : decode cL_law 542 = Except.ok (Instr.aload_n 2, 1) := by decide +kernel
theorem dL_law_543 : decode cL_law 543 = Except.ok (Instr.aload_n 0, 1) := by decide +kernel
theorem dL_law_544 : decode cL_law 544 = Except.ok (Instr.iload_n 3, 1) := by decide +kernel
theorem dL_law_545 : decode cL_law 545 = Except.ok (Instr.iconst 1, 1) := by decide +kernel
theorem dL_law_546 : decode cL_law 546 = Except.ok (Instr.iadd, 1) := by decide +kernel
theorem dL_law_547 : decode cL_law 547 = Except.ok (Instr.iaload, 1) := by decide +kernel
theorem dL_law_548 : decode cL_law 548 = Except.ok (Instr.invokevirtual 67, 3) := by decide +kernel
theorem dL_law_551 : decode cL_law 551 = Except.ok (Instr.lcmp, 1) := by decide +kernel
theorem dL_law_552 : decode cL_law 552 = Except.ok (Instr.ifCond .eq 653, 3) := by decide +kernel
theorem dL_law_555 : decode cL_law 555 = Except.ok (Instr.iconst 0, 1) := by decide +kernel
theorem dL_law_556 : decode cL_law 556 = Except.ok (Instr.ireturn, 1) := by decide +kernel
theorem dL_law_557 : decode cL_law 557 = Except.ok (Instr.aload_n 1, 1) := by decide +kernel
theorem dL_law_558 : decode cL_law 558 = Except.ok (Instr.aload_n 0, 1) := by decide +kernel
theorem dL_law_559 : decode cL_law 559 = Except.ok (Instr.iload_n 3, 1) := by decide +kernel
theorem dL_law_560 : decode cL_law 560 = Except.ok (Instr.iconst 1, 1) := by decide +kernel
theorem dL_law_561 : decode cL_law 561 = Except.ok (Instr.iadd, 1) := by decide +kernel
theorem dL_law_562 : decode cL_law 562 = Except.ok (Instr.iaload, 1) := by decide +kernel
theorem dL_law_563 : decode cL_law 563 = Except.ok (Instr.invokevirtual 68, 3) := by decide +kernel
theorem dL_law_566 : decode cL_law 566 = Except.ok (Instr.aload_n 2, 1) := by decide +kernel
theorem dL_law_567 : decode cL_law 567 = Except.ok (Instr.aload_n 0, 1) := by decide +kernel
theorem dL_law_568 : decode cL_law 568 = Except.ok (Instr.iload_n 3, 1) := by decide +kernel
theorem dL_law_569 : decode cL_law 569 = Except.ok (Instr.iconst 1, 1) := by decide +kernel
theorem dL_law_570 : decode cL_law 570 = Except.ok (Instr.iadd, 1) := by decide +kernel
theorem dL_law_571 : decode cL_law 571 = Except.ok (Instr.iaload, 1) := by decide +kernel
theorem dL_law_572 : decode cL_law 572 = Except.ok (Instr.invokevirtual 71, 3) := by decide +kernel
theorem dL_law_575 : decode cL_law 575 = Except.ok (Instr.lcmp, 1) := by decide +kernel
theorem dL_law_576 : decode cL_law 576 = Except.ok (Instr.ifCond .eq 629, 3) := by decide +kernel
theorem dL_law_579 : decode cL_law 579 = Except.ok (Instr.iconst 0, 1) := by decide +kernel
theorem dL_law_580 : decode cL_law 580 = Except.ok (Instr.ireturn, 1) := by decide +kernel
theorem dL_law_581 : decode cL_law 581 = Except.ok (Instr.aload_n 1, 1) := by decide +kernel
theorem dL_law_582 : decode cL_law 582 = Except.ok (Instr.aload_n 0, 1) := by decide +kernel
theorem dL_law_583 : decode cL_law 583 = Except.ok (Instr.iload_n 3, 1) := by decide +kernel
theorem dL_law_584 : decode cL_law 584 = Except.ok (Instr.iconst 1, 1) := by decide +kernel
theorem dL_law_585 : decode cL_law 585 = Except.ok (Instr.iadd, 1) := by decide +kernel
theorem dL_law_586 : decode cL_law 586 = Except.ok (Instr.iaload, 1) := by decide +kernel
theorem dL_law_587 : decode cL_law 587 = Except.ok (Instr.invokevirtual 72, 3) := by decide +kernel
theorem dL_law_590 : decode cL_law 590 = Except.ok (Instr.aload_n 2, 1) := by decide +kernel
theorem dL_law_591 : decode cL_law 591 = Except.ok (Instr.aload_n 0, 1) := by decide +kernel
theorem dL_law_592 : decode cL_law 592 = Except.ok (Instr.iload_n 3, 1) := by decide +kernel
theorem dL_law_593 : decode cL_law 593 = Except.ok (Instr.iconst 1, 1) := by decide +kernel
theorem dL_law_594 : decode cL_law 594 = Except.ok (Instr.iadd, 1) := by decide +kernel
theorem dL_law_595 : decode cL_law 595 = Except.ok (Instr.iaload, 1) := by decide +kernel
theorem dL_law_596 : decode cL_law 596 = Except.ok (Instr.invokevirtual 75, 3) := by decide +kernel
theorem dL_law_599 : decode cL_law 599 = Except.ok (Instr.if_icmp .eq 606, 3) := by decide +kernel
theorem dL_law_602 : decode cL_law 602 = Except.ok (Instr.iconst 0, 1) := by decide +kernel
theorem dL_law_603 : decode cL_law 603 = Except.ok (Instr.ireturn, 1) := by decide +kernel
theorem dL_law_604 : decode cL_law 604 = Except.ok (Instr.aload_n 1, 1) := by decide +kernel
theorem dL_law_605 : decode cL_law 605 = Except.ok (Instr.aload_n 0, 1) := by decide +kernel
theorem dL_law_606 : decode cL_law 606 = Except.ok (Instr.iload_n 3, 1) := by decide +kernel
theorem dL_law_607 : decode cL_law 607 = Except.ok (Instr.iconst 1, 1) := by decide +kernel
theorem dL_law_608 : decode cL_law 608 = Except.ok (Instr.iadd, 1) := by decide +kernel
theorem dL_law_609 : decode cL_law 609 = Except.ok (Instr.iaload, 1) := by decide +kernel
theorem dL_law_610 : decode cL_law 610 = Except.ok (Instr.invokevirtual 76, 3) := by decide +kernel
theorem dL_law_613 : decode cL_law 613 = Except.ok (Instr.aload_n 2, 1) := by decide +kernel
theorem dL_law_614 : decode cL_law 614 = Except.ok (Instr.aload_n 0, 1) := by decide +kernel
theorem dL_law_615 : decode cL_law 615 = Except.ok (Instr.iload_n 3, 1) := by decide +kernel
theorem dL_law_616 : decode cL_law 616 = Except.ok (Instr.iconst 1, 1) := by decide +kernel
theorem dL_law_617 : decode cL_law 617 = Except.ok (Instr.iadd, 1) := by decide +kernel
theorem dL_law_618 : decode cL_law 618 = Except.ok (Instr.iaload, 1) := by decide +kernel
theorem dL_law_619 : decode cL_law 619 = Except.ok (Instr.invokevirtual 79, 3) := by decide +kernel
theorem dL_law_622 : decode cL_law 622 = Except.ok (Instr.if_icmp .eq 583, 3) := by decide +kernel
theorem dL_law_625 : decode cL_law 625 = Except.ok (Instr.iconst 0, 1) := by decide +kernel
theorem dL_law_626 : decode cL_law 626 = Except.ok (Instr.ireturn, 1) := by decide +kernel
theorem dL_law_627 : decode cL_law 627 = Except.ok (Instr.aload_n 1, 1) := by decide +kernel
theorem dL_law_628 : decode cL_law 628 = Except.ok (Instr.aload_n 0, 1) := by decide +kernel
theorem dL_law_629 : decode cL_law 629 = Except.ok (Instr.iload_n 3, 1) := by decide +kernel
theorem dL_law_630 : decode cL_law 630 = Except.ok (Instr.iconst 1, 1) := by decide +kernel
theorem dL_law_631 : decode cL_law 631 = Except.ok (Instr.iadd, 1) := by decide +kernel
theorem dL_law_632 : decode cL_law 632 = Except.ok (Instr.iaload, 1) := by decide +kernel
theorem dL_law_633 : decode cL_law 633 = Except.ok (Instr.invokevirtual 80, 3) := by decide +kernel
theorem dL_law_636 : decode cL_law 636 = Except.ok (Instr.aload_n 2, 1) := by decide +kernel
theorem dL_law_637 : decode cL_law 637 = Except.ok (Instr.aload_n 0, 1) := by decide +kernel
theorem dL_law_638 : decode cL_law 638 = Except.ok (Instr.iload_n 3, 1) := by decide +kernel
theorem dL_law_639 : decode cL_law 639 = Except.ok (Instr.iconst 1, 1) := by decide +kernel
theorem dL_law_640 : decode cL_law 640 = Except.ok (Instr.iadd, 1) := by decide +kernel
theorem dL_law_641 : decode cL_law 641 = Except.ok (Instr.iaload, 1) := by decide +kernel
theorem dL_law_642 : decode cL_law 642 = Except.ok (Instr.invokevirtual 83, 3) := by decide +kernel
theorem dL_law_645 : decode cL_law 645 = Except.ok (Instr.if_icmp .eq 560, 3) := by decide +kernel
theorem dL_law_648 : decode cL_law 648 = Except.ok (Instr.iconst 0, 1) := by decide +kernel
theorem dL_law_649 : decode cL_law 649 = Except.ok (Instr.ireturn, 1) := by decide +kernel
theorem dL_law_650 : decode cL_law 650 = Except.ok (Instr.aload_n 1, 1) := by decide +kernel
theorem dL_law_651 : decode cL_law 651 = Except.ok (Instr.aload_n 0, 1) := by decide +kernel
theorem dL_law_652 : decode cL_law 652 = Except.ok (Instr.iload_n 3, 1) := by decide +kernel
theorem dL_law_653 : decode cL_law 653 = Except.ok (Instr.iconst 1, 1) := by decide +kernel
theorem dL_law_654 : decode cL_law 654 = Except.ok (Instr.iadd, 1) := by decide +kernel
theorem dL_law_655 : decode cL_law 655 = Except.ok (Instr.iaload, 1) := by decide +kernel
theorem dL_law_656 : decode cL_law 656 = Except.ok (Instr.invokevirtual 84, 3) := by decide +kernel
theorem dL_law_659 : decode cL_law 659 = Except.ok (Instr.aload_n 2, 1) := by decide +kernel
theorem dL_law_660 : decode cL_law 660 = Except.ok (Instr.aload_n 0, 1) := by decide +kernel
theorem dL_law_661 : decode cL_law 661 = Except.ok (Instr.iload_n 3, 1) := by decide +kernel
theorem dL_law_662 : decode cL_law 662 = Except.ok (Instr.iconst 1, 1) := by decide +kernel
theorem dL_law_663 : decode cL_law 663 = Except.ok (Instr.iadd, 1) := by decide +kernel
theorem dL_law_664 : decode cL_law 664 = Except.ok (Instr.iaload, 1) := by decide +kernel
theorem dL_law_665 : decode cL_law 665 = Except.ok (Instr.invokevirtual 87, 3) := by decide +kernel
theorem dL_law_668 : decode cL_law 668 = Except.ok (Instr.if_icmp .eq 537, 3) := by decide +kernel
theorem dL_law_671 : decode cL_law 671 = Except.ok (Instr.iconst 0, 1) := by decide +kernel
theorem dL_law_672 : decode cL_law 672 = Except.ok (Instr.ireturn, 1) := by decide +kernel
theorem dL_law_673 : decode cL_law 673 = Except.ok (Instr.aload_n 1, 1) := by decide +kernel
theorem dL_law_674 : decode cL_law 674 = Except.ok (Instr.invokevirtual 88, 3) := by decide +kernel
theorem dL_law_677 : decode cL_law 677 = Except.ok (Instr.aload_n 2, 1) := by decide +kernel
theorem dL_law_678 : decode cL_law 678 = Except.ok (Instr.invokevirtual 91, 3) := by decide +kernel
theorem dL_law_681 : decode cL_law 681 = Except.ok (Instr.if_icmp .eq 524, 3) := by decide +kernel
theorem dL_law_684 : decode cL_law 684 = Except.ok (Instr.iconst 0, 1) := by decide +kernel
theorem dL_law_685 : decode cL_law 685 = Except.ok (Instr.ireturn, 1) := by decide +kernel
theorem dL_law_686 : decode cL_law 686 = Except.ok (Instr.aload_n 1, 1) := by decide +kernel
theorem dL_law_687 : decode cL_law 687 = Except.ok (Instr.aload_n 0, 1) := by decide +kernel
theorem dL_law_688 : decode cL_law 688 = Except.ok (Instr.iload_n 3, 1) := by decide +kernel
theorem dL_law_689 : decode cL_law 689 = Except.ok (Instr.iconst 1, 1) := by decide +kernel
theorem dL_law_690 : decode cL_law 690 = Except.ok (Instr.iadd, 1) := by decide +kernel
theorem dL_law_691 : decode cL_law 691 = Except.ok (Instr.iaload, 1) := by decide +kernel
theorem dL_law_692 : decode cL_law 692 = Except.ok (Instr.invokevirtual 92, 3) := by decide +kernel
theorem dL_law_695 : decode cL_law 695 = Except.ok (Instr.aload_n 2, 1) := by decide +kernel
theorem dL_law_696 : decode cL_law 696 = Except.ok (Instr.aload_n 0, 1) := by decide +kernel
theorem dL_law_697 : decode cL_law 697 = Except.ok (Instr.iload_n 3, 1) := by decide +kernel
theorem dL_law_698 : decode cL_law 698 = Except.ok (Instr.iconst 1, 1) := by decide +kernel
theorem dL_law_699 : decode cL_law 699 = Except.ok (Instr.iadd, 1) := by decide +kernel
theorem dL_law_700 : decode cL_law 700 = Except.ok (Instr.iaload, 1) := by decide +kernel
theorem dL_law_701 : decode cL_law 701 = Except.ok (Instr.invokevirtual 95, 3) := by decide +kernel
theorem dL_law_704 : decode cL_law 704 = Except.ok (Instr.lcmp, 1) := by decide +kernel
theorem dL_law_705 : decode cL_law 705 = Except.ok (Instr.ifCond .eq 500, 3) := by decide +kernel
theorem dL_law_708 : decode cL_law 708 = Except.ok (Instr.iconst 0, 1) := by decide +kernel
theorem dL_law_709 : decode cL_law 709 = Except.ok (Instr.ireturn, 1) := by decide +kernel
theorem dL_law_710 : decode cL_law 710 = Except.ok (Instr.aload_n 1, 1) := by decide +kernel
theorem dL_law_711 : decode cL_law 711 = Except.ok (Instr.aload_n 0, 1) := by decide +kernel
theorem dL_law_712 : decode cL_law 712 = Except.ok (Instr.iload_n 3, 1) := by decide +kernel
theorem dL_law_713 : decode cL_law 713 = Except.ok (Instr.iconst 1, 1) := by decide +kernel
theorem dL_law_714 : decode cL_law 714 = Except.ok (Instr.iadd, 1) := by decide +kernel
theorem dL_law_715 : decode cL_law 715 = Except.ok (Instr.iaload, 1) := by decide +kernel
theorem dL_law_716 : decode cL_law 716 = Except.ok (Instr.aload_n 0, 1) := by decide +kernel
theorem dL_law_717 : decode cL_law 717 = Except.ok (Instr.iload_n 3, 1) := by decide +kernel
theorem dL_law_718 : decode cL_law 718 = Except.ok (Instr.iconst 2, 1) := by decide +kernel
theorem dL_law_719 : decode cL_law 719 = Except.ok (Instr.iadd, 1) := by decide +kernel
theorem dL_law_720 : decode cL_law 720 = Except.ok (Instr.iaload, 1) := by decide +kernel
theorem dL_law_721 : decode cL_law 721 = Except.ok (Instr.aload_n 0, 1) := by decide +kernel
theorem dL_law_722 : decode cL_law 722 = Except.ok (Instr.iload_n 3, 1) := by decide +kernel
theorem dL_law_723 : decode cL_law 723 = Except.ok (Instr.iconst 3, 1) := by decide +kernel
theorem dL_law_724 : decode cL_law 724 = Except.ok (Instr.iadd, 1) := by decide +kernel
theorem dL_law_725 : decode cL_law 725 = Except.ok (Instr.iaload, 1) := by decide +kernel
theorem dL_law_726 : decode cL_law 726 = Except.ok (Instr.invokevirtual 96, 3) := by decide +kernel
theorem dL_law_729 : decode cL_law 729 = Except.ok (Instr.aload_n 2, 1) := by decide +kernel
theorem dL_law_730 : decode cL_law 730 = Except.ok (Instr.aload_n 0, 1) := by decide +kernel
theorem dL_law_731 : decode cL_law 731 = Except.ok (Instr.iload_n 3, 1) := by decide +kernel
theorem dL_law_732 : decode cL_law 732 = Except.ok (Instr.iconst 1, 1) := by decide +kernel
theorem dL_law_733 : decode cL_law 733 = Except.ok (Instr.iadd, 1) := by decide +kernel
theorem dL_law_734 : decode cL_law 734 = Except.ok (Instr.iaload, 1) := by decide +kernel
theorem dL_law_735 : decode cL_law 735 = Except.ok (Instr.aload_n 0, 1) := by decide +kernel
theorem dL_law_736 : decode cL_law 736 = Except.ok (Instr.iload_n 3, 1) := by decide +kernel
theorem dL_law_737 : decode cL_law 737 = Except.ok (Instr.iconst 2, 1) := by decide +kernel
theorem dL_law_738 : decode cL_law 738 = Except.ok (Instr.iadd, 1) := by decide +kernel
theorem dL_law_739 : decode cL_law 739 = Except.ok (Instr.iaload, 1) := by decide +kernel
theorem dL_law_740 : decode cL_law 740 = Except.ok (Instr.aload_n 0, 1) := by decide +kernel
theorem dL_law_741 : decode cL_law 741 = Except.ok (Instr.iload_n 3, 1) := by decide +kernel
theorem dL_law_742 : decode cL_law 742 = Except.ok (Instr.iconst 3, 1) := by decide +kernel
theorem dL_law_743 : decode cL_law 743 = Except.ok (Instr.iadd, 1) := by decide +kernel
theorem dL_law_744 : decode cL_law 744 = Except.ok (Instr.iaload, 1) := by decide +kernel
theorem dL_law_745 : decode cL_law 745 = Except.ok (Instr.invokevirtual 99, 3) := by decide +kernel
theorem dL_law_748 : decode cL_law 748 = Except.ok (Instr.if_icmp .eq 457, 3) := by decide +kernel
theorem dL_law_751 : decode cL_law 751 = Except.ok (Instr.iconst 0, 1) := by decide +kernel
theorem dL_law_752 : decode cL_law 752 = Except.ok (Instr.ireturn, 1) := by decide +kernel
theorem dL_law_753 : decode cL_law 753 = Except.ok (Instr.aload_n 1, 1) := by decide +kernel
theorem dL_law_754 : decode cL_law 754 = Except.ok (Instr.invokevirtual 100, 3) := by decide +kernel
theorem dL_law_757 : decode cL_law 757 = Except.ok (Instr.aload_n 2, 1) := by decide +kernel
theorem dL_law_758 : decode cL_law 758 = Except.ok (Instr.invokevirtual 103, 3) := by decide +kernel
theorem dL_law_761 : decode cL_law 761 = Except.ok (Instr.if_icmp .eq 444, 3) := by decide +kernel
theorem dL_law_764 : decode cL_law 764 = Except.ok (Instr.iconst 0, 1) := by decide +kernel
theorem dL_law_765 : decode cL_law 765 = Except.ok (Instr.ireturn, 1) := by decide +kernel
theorem dL_law_766 : decode cL_law 766 = Except.ok (Instr.aload_n 1, 1) := by decide +kernel
theorem dL_law_767 : decode cL_law 767 = Except.ok (Instr.aload_n 0, 1) := by decide +kernel
theorem dL_law_768 : decode cL_law 768 = Except.ok (Instr.iload_n 3, 1) := by decide +kernel
theorem dL_law_769 : decode cL_law 769 = Except.ok (Instr.iconst 1, 1) := by decide +kernel
theorem dL_law_770 : decode cL_law 770 = Except.ok (Instr.iadd, 1) := by decide +kernel
theorem dL_law_771 : decode cL_law 771 = Except.ok (Instr.iaload, 1) := by decide +kernel
theorem dL_law_772 : decode cL_law 772 = Except.ok (Instr.aload_n 0, 1) := by decide +kernel
theorem dL_law_773 : decode cL_law 773 = Except.ok (Instr.iload_n 3, 1) := by decide +kernel
theorem dL_law_774 : decode cL_law 774 = Except.ok (Instr.iconst 2, 1) := by decide +kernel
theorem dL_law_775 : decode cL_law 775 = Except.ok (Instr.iadd, 1) := by decide +kernel
theorem dL_law_776 : decode cL_law 776 = Except.ok (Instr.iaload, 1) := by decide +kernel
theorem dL_law_777 : decode cL_law 777 = Except.ok (Instr.invokevirtual 104, 3) := by decide +kernel
theorem dL_law_780 : decode cL_law 780 = Except.ok (Instr.aload_n 2, 1) := by decide +kernel
theorem dL_law_781 : decode cL_law 781 = Except.ok (Instr.aload_n 0, 1) := by decide +kernel
theorem dL_law_782 : decode cL_law 782 = Except.ok (Instr.iload_n 3, 1) := by decide +kernel
theorem dL_law_783 : decode cL_law 783 = Except.ok (Instr.iconst 1, 1) := by decide +kernel
theorem dL_law_784 : decode cL_law 784 = Except.ok (Instr.iadd, 1) := by decide +kernel
theorem dL_law_785 : decode cL_law 785 = Except.ok (Instr.iaload, 1) := by decide +kernel
theorem dL_law_786 : decode cL_law 786 = Except.ok (Instr.aload_n 0, 1) := by decide +kernel
theorem dL_law_787 : decode cL_law 787 = Except.ok (Instr.iload_n 3, 1) := by decide +kernel
theorem dL_law_788 : decode cL_law 788 = Except.ok (Instr.iconst 2, 1) := by decide +kernel
theorem dL_law_789 : decode cL_law 789 = Except.ok (Instr.iadd, 1) := by decide +kernel
theorem dL_law_790 : decode cL_law 790 = Except.ok (Instr.iaload, 1) := by decide +kernel
theorem dL_law_791 : decode cL_law 791 = Except.ok (Instr.invokevirtual 107, 3) := by decide +kernel
theorem dL_law_794 : decode cL_law 794 = Except.ok (Instr.if_icmp .eq 411, 3) := by decide +kernel
theorem dL_law_797 : decode cL_law 797 = Except.ok (Instr.iconst 0, 1) := by decide +kernel
theorem dL_law_798 : decode cL_law 798 = Except.ok (Instr.ireturn, 1) := by decide +kernel
theorem dL_law_799 : decode cL_law 799 = Except.ok (Instr.aload_n 1, 1) := by decide +kernel
theorem dL_law_800 : decode cL_law 800 = Except.ok (Instr.aload_n 0, 1) := by decide +kernel
theorem dL_law_801 : decode cL_law 801 = Except.ok (Instr.iload_n 3, 1) := by decide +kernel
theorem dL_law_802 : decode cL_law 802 = Except.ok (Instr.iconst 1, 1) := by decide +kernel
theorem dL_law_803 : decode cL_law 803 = Except.ok (Instr.iadd, 1) := by decide +kernel
theorem dL_law_804 : decode cL_law 804 = Except.ok (Instr.iaload, 1) := by decide +kernel
theorem dL_law_805 : decode cL_law 805 = Except.ok (Instr.invokevirtual 108, 3) := by decide +kernel
theorem dL_law_808 : decode cL_law 808 = Except.ok (Instr.aload_n 2, 1) := by decide +kernel
theorem dL_law_809 : decode cL_law 809 = Except.ok (Instr.aload_n 0, 1) := by decide +kernel
theorem dL_law_810 : decode cL_law 810 = Except.ok (Instr.iload_n 3, 1) := by decide +kernel
theorem dL_law_811 : decode cL_law 811 = Except.ok (Instr.iconst 1, 1) := by decide +kernel
theorem dL_law_812 : decode cL_law 812 = Except.ok (Instr.iadd, 1) := by decide +kernel
theorem dL_law_813 : decode cL_law 813 = Except.ok (Instr.iaload, 1) := by decide +kernel
theorem dL_law_814 : decode cL_law 814 = Except.ok (Instr.invokevirtual 111, 3) := by decide +kernel
theorem dL_law_817 : decode cL_law 817 = Except.ok (Instr.if_icmp .eq 388, 3) := by decide +kernel
theorem dL_law_820 : decode cL_law 820 = Except.ok (Instr.iconst 0, 1) := by decide +kernel
theorem dL_law_821 : decode cL_law 821 = Except.ok (Instr.ireturn, 1) := by decide +kernel
theorem dL_law_822 : decode cL_law 822 = Except.ok (Instr.aload_n 1, 1) := by decide +kernel
theorem dL_law_823 : decode cL_law 823 = Except.ok (Instr.aload_n 0, 1) := by decide +kernel
theorem dL_law_824 : decode cL_law 824 = Except.ok (Instr.iload_n 3, 1) := by decide +kernel
theorem dL_law_825 : decode cL_law 825 = Except.ok (Instr.iconst 1, 1) := by decide +kernel
theorem dL_law_826 : decode cL_law 826 = Except.ok (Instr.iadd, 1) := by decide +kernel
theorem dL_law_827 : decode cL_law 827 = Except.ok (Instr.iaload, 1) := by decide +kernel
theorem dL_law_828 : decode cL_law 828 = Except.ok (Instr.aload_n 0, 1) := by decide +kernel
theorem dL_law_829 : decode cL_law 829 = Except.ok (Instr.iload_n 3, 1) := by decide +kernel
theorem dL_law_830 : decode cL_law 830 = Except.ok (Instr.iconst 2, 1) := by decide +kernel
theorem dL_law_831 : decode cL_law 831 = Except.ok (Instr.iadd, 1) := by decide +kernel
theorem dL_law_832 : decode cL_law 832 = Except.ok (Instr.iaload, 1) := by decide +kernel
theorem dL_law_833 : decode cL_law 833 = Except.ok (Instr.aload_n 0, 1) := by decide +kernel
theorem dL_law_834 : decode cL_law 834 = Except.ok (Instr.iload_n 3, 1) := by decide +kernel
theorem dL_law_835 : decode cL_law 835 = Except.ok (Instr.iconst 3, 1) := by decide +kernel
theorem dL_law_836 : decode cL_law 836 = Except.ok (Instr.iadd, 1) := by decide +kernel
theorem dL_law_837 : decode cL_law 837 = Except.ok (Instr.iaload, 1) := by decide +kernel
theorem dL_law_838 : decode cL_law 838 = Except.ok (Instr.invokevirtual 112, 3) := by decide +kernel
theorem dL_law_841 : decode cL_law 841 = Except.ok (Instr.aload_n 2, 1) := by decide +kernel
theorem dL_law_842 : decode cL_law 842 = Except.ok (Instr.aload_n 0, 1) := by decide +kernel
theorem dL_law_843 : decode cL_law 843 = Except.ok (Instr.iload_n 3, 1) := by decide +kernel
theorem dL_law_844 : decode cL_law 844 = Except.ok (Instr.iconst 1, 1) := by decide +kernel
theorem dL_law_845 : decode cL_law 845 = Except.ok (Instr.iadd, 1) := by decide +kernel
theorem dL_law_846 : decode cL_law 846 = Except.ok (Instr.iaload, 1) := by decide +kernel
theorem dL_law_847 : decode cL_law 847 = Except.ok (Instr.aload_n 0, 1) := by decide +kernel
theorem dL_law_848 : decode cL_law 848 = Except.ok (Instr.iload_n 3, 1) := by decide +kernel
theorem dL_law_849 : decode cL_law 849 = Except.ok (Instr.iconst 2, 1) := by decide +kernel
theorem dL_law_850 : decode cL_law 850 = Except.ok (Instr.iadd, 1) := by decide +kernel
theorem dL_law_851 : decode cL_law 851 = Except.ok (Instr.iaload, 1) := by decide +kernel
theorem dL_law_852 : decode cL_law 852 = Except.ok (Instr.aload_n 0, 1) := by decide +kernel
theorem dL_law_853 : decode cL_law 853 = Except.ok (Instr.iload_n 3, 1) := by decide +kernel
theorem dL_law_854 : decode cL_law 854 = Except.ok (Instr.iconst 3, 1) := by decide +kernel
theorem dL_law_855 : decode cL_law 855 = Except.ok (Instr.iadd, 1) := by decide +kernel
theorem dL_law_856 : decode cL_law 856 = Except.ok (Instr.iaload, 1) := by decide +kernel
theorem dL_law_857 : decode cL_law 857 = Except.ok (Instr.invokevirtual 115, 3) := by decide +kernel
theorem dL_law_860 : decode cL_law 860 = Except.ok (Instr.if_icmp .eq 345, 3) := by decide +kernel
theorem dL_law_863 : decode cL_law 863 = Except.ok (Instr.iconst 0, 1) := by decide +kernel
theorem dL_law_864 : decode cL_law 864 = Except.ok (Instr.ireturn, 1) := by decide +kernel
theorem dL_law_865 : decode cL_law 865 = Except.ok (Instr.aload_n 1, 1) := by decide +kernel
theorem dL_law_866 : decode cL_law 866 = Except.ok (Instr.aload_n 0, 1) := by decide +kernel
theorem dL_law_867 : decode cL_law 867 = Except.ok (Instr.iload_n 3, 1) := by decide +kernel
theorem dL_law_868 : decode cL_law 868 = Except.ok (Instr.iconst 1, 1) := by decide +kernel
theorem dL_law_869 : decode cL_law 869 = Except.ok (Instr.iadd, 1) := by decide +kernel
theorem dL_law_870 : decode cL_law 870 = Except.ok (Instr.iaload, 1) := by decide +kernel
theorem dL_law_871 : decode cL_law 871 = Except.ok (Instr.invokevirtual 116, 3) := by decide +kernel
theorem dL_law_874 : decode cL_law 874 = Except.ok (Instr.aload_n 2, 1) := by decide +kernel
theorem dL_law_875 : decode cL_law 875 = Except.ok (Instr.aload_n 0, 1) := by decide +kernel
theorem dL_law_876 : decode cL_law 876 = Except.ok (Instr.iload_n 3, 1) := by decide +kernel
theorem dL_law_877 : decode cL_law 877 = Except.ok (Instr.iconst 1, 1) := by decide +kernel
theorem dL_law_878 : decode cL_law 878 = Except.ok (Instr.iadd, 1) := by decide +kernel
theorem dL_law_879 : decode cL_law 879 = Except.ok (Instr.iaload, 1) := by decide +kernel
theorem dL_law_880 : decode cL_law 880 = Except.ok (Instr.invokevirtual 119, 3) := by decide +kernel
theorem dL_law_883 : decode cL_law 883 = Except.ok (Instr.lcmp, 1) := by decide +kernel
theorem dL_law_884 : decode cL_law 884 = Except.ok (Instr.ifCond .eq 321, 3) := by decide +kernel
theorem dL_law_887 : decode cL_law 887 = Except.ok (Instr.iconst 0, 1) := by decide +kernel
theorem dL_law_888 : decode cL_law 888 = Except.ok (Instr.ireturn, 1) := by decide +kernel
theorem dL_law_889 : decode cL_law 889 = Except.ok (Instr.aload_n 1, 1) := by decide +kernel
theorem dL_law_890 : decode cL_law 890 = Except.ok (Instr.aload_n 0, 1) := by decide +kernel
theorem dL_law_891 : decode cL_law 891 = Except.ok (Instr.iload_n 3, 1) := by decide +kernel
theorem dL_law_892 : decode cL_law 892 = Except.ok (Instr.iconst 1, 1) := by decide +kernel
theorem dL_law_893 : decode cL_law 893 = Except.ok (Instr.iadd, 1) := by decide +kernel
theorem dL_law_894 : decode cL_law 894 = Except.ok (Instr.iaload, 1) := by decide +kernel
theorem dL_law_895 : decode cL_law 895 = Except.ok (Instr.invokevirtual 120, 3) := by decide +kernel
theorem dL_law_898 : decode cL_law 898 = Except.ok (Instr.aload_n 2, 1) := by decide +kernel
theorem dL_law_899 : decode cL_law 899 = Except.ok (Instr.aload_n 0, 1) := by decide +kernel
theorem dL_law_900 : decode cL_law 900 = Except.ok (Instr.iload_n 3, 1) := by decide +kernel
theorem dL_law_901 : decode cL_law 901 = Except.ok (Instr.iconst 1, 1) := by decide +kernel
theorem dL_law_902 : decode cL_law 902 = Except.ok (Instr.iadd, 1) := by decide +kernel
theorem dL_law_903 : decode cL_law 903 = Except.ok (Instr.iaload, 1) := by decide +kernel
theorem dL_law_904 : decode cL_law 904 = Except.ok (Instr.invokevirtual 123, 3) := by decide +kernel
theorem dL_law_907 : decode cL_law 907 = Except.ok (Instr.lcmp, 1) := by decide +kernel
theorem dL_law_908 : decode cL_law 908 = Except.ok (Instr.ifCond .eq 297, 3) := by decide +kernel
theorem dL_law_911 : decode cL_law 911 = Except.ok (Instr.iconst 0, 1) := by decide +kernel
theorem dL_law_912 : decode cL_law 912 = Except.ok (Instr.ireturn, 1) := by decide +kernel
theorem dL_law_913 : decode cL_law 913 = Except.ok (Instr.aload_n 1, 1) := by decide +kernel
theorem dL_law_914 : decode cL_law 914 = Except.ok (Instr.invokevirtual 124, 3) := by decide +kernel
theorem dL_law_917 : decode cL_law 917 = Except.ok (Instr.aload_n 2, 1) := by decide +kernel
theorem dL_law_918 : decode cL_law 918 = Except.ok (Instr.invokevirtual 128, 3) := by decide +kernel
theorem dL_law_921 : decode cL_law 921 = Except.ok (Instr.lcmp, 1) := by decide +kernel
theorem dL_law_922 : decode cL_law 922 = Except.ok (Instr.ifCond .eq 283, 3) := by decide +kernel
theorem dL_law_925 : decode cL_law 925 = Except.ok (Instr.iconst 0, 1) := by decide +kernel
theorem dL_law_926 : decode cL_law 926 = Except.ok (Instr.ireturn, 1) := by decide +kernel
theorem dL_law_927 : decode cL_law 927 = Except.ok (Instr.aload_n 1, 1) := by decide +kernel
theorem dL_law_928 : decode cL_law 928 = Except.ok (Instr.invokevirtual 129, 3) := by decide +kernel
theorem dL_law_931 : decode cL_law 931 = Except.ok (Instr.aload_n 2, 1) := by decide +kernel
theorem dL_law_932 : decode cL_law 932 = Except.ok (Instr.invokevirtual 132, 3) := by decide +kernel
theorem dL_law_935 : decode cL_law 935 = Except.ok (Instr.lcmp, 1) := by decide +kernel
theorem dL_law_936 : decode cL_law 936 = Except.ok (Instr.ifCond .eq 269, 3) := by decide +kernel
theorem dL_law_939 : decode cL_law 939 = Except.ok (Instr.iconst 0, 1) := by decide +kernel
theorem dL_law_940 : decode cL_law 940 = Except.ok (Instr.ireturn, 1) := by decide +kernel
theorem dL_law_941 : decode cL_law 941 = Except.ok (Instr.aload_n 1, 1) := by decide +kernel
theorem dL_law_942 : decode cL_law 942 = Except.ok (Instr.invokevirtual 133, 3) := by decide +kernel
theorem dL_law_945 : decode cL_law 945 = Except.ok (Instr.aload_n 2, 1) := by decide +kernel
theorem dL_law_946 : decode cL_law 946 = Except.ok (Instr.invokevirtual 136, 3) := by decide +kernel
theorem dL_law_949 : decode cL_law 949 = Except.ok (Instr.lcmp, 1) := by decide +kernel
theorem dL_law_950 : decode cL_law 950 = Except.ok (Instr.ifCond .eq 255, 3) := by decide +kernel
theorem dL_law_953 : decode cL_law 953 = Except.ok (Instr.iconst 0, 1) := by decide +kernel
theorem dL_law_954 : decode cL_law 954 = Except.ok (Instr.ireturn, 1) := by decide +kernel
theorem dL_law_955 : decode cL_law 955 = Except.ok (Instr.aload_n 1, 1) := by decide +kernel
theorem dL_law_956 : decode cL_law 956 = Except.ok (Instr.aload_n 0, 1) := by decide +kernel
theorem dL_law_957 : decode cL_law 957 = Except.ok (Instr.iload_n 3, 1) := by decide +kernel
theorem dL_law_958 : decode cL_law 958 = Except.ok (Instr.iconst 1, 1) := by decide +kernel
theorem dL_law_959 : decode cL_law 959 = Except.ok (Instr.iadd, 1) := by decide +kernel
theorem dL_law_960 : decode cL_law 960 = Except.ok (Instr.iaload, 1) := by decide +kernel
theorem dL_law_961 : decode cL_law 961 = Except.ok (Instr.aload_n 0, 1) := by decide +kernel
theorem dL_law_962 : decode cL_law 962 = Except.ok (Instr.iload_n 3, 1) := by decide +kernel
theorem dL_law_963 : decode cL_law 963 = Except.ok (Instr.iconst 2, 1) := by decide +kernel
theorem dL_law_964 : decode cL_law 964 = Except.ok (Instr.iadd, 1) := by decide +kernel
theorem dL_law_965 : decode cL_law 965 = Except.ok (Instr.iaload, 1) := by decide +kernel
theorem dL_law_966 : decode cL_law 966 = Except.ok (Instr.aload_n 0, 1) := by decide +kernel
theorem dL_law_967 : decode cL_law 967 = Except.ok (Instr.iload_n 3, 1) := by decide +kernel
theorem dL_law_968 : decode cL_law 968 = Except.ok (Instr.iconst 3, 1) := by decide +kernel
theorem dL_law_969 : decode cL_law 969 = Except.ok (Instr.iadd, 1) := by decide +kernel
theorem dL_law_970 : decode cL_law 970 = Except.ok (Instr.iaload, 1) := by decide +kernel
theorem dL_law_971 : decode cL_law 971 = Except.ok (Instr.aload_n 0, 1) := by decide +kernel
theorem dL_law_972 : decode cL_law 972 = Except.ok (Instr.iload_n 3, 1) := by decide +kernel
theorem dL_law_973 : decode cL_law 973 = Except.ok (Instr.iconst 4, 1) := by decide +kernel
theorem dL_law_974 : decode cL_law 974 = Except.ok (Instr.iadd, 1) := by decide +kernel
theorem dL_law_975 : decode cL_law 975 = Except.ok (Instr.iaload, 1) := by decide +kernel
theorem dL_law_976 : decode cL_law 976 = Except.ok (Instr.invokevirtual 137, 3) := by decide +kernel
theorem dL_law_979 : decode cL_law 979 = Except.ok (Instr.aload_n 2, 1) := by decide +kernel
theorem dL_law_980 : decode cL_law 980 = Except.ok (Instr.aload_n 0, 1) := by decide +kernel
theorem dL_law_981 : decode cL_law 981 = Except.ok (Instr.iload_n 3, 1) := by decide +kernel
theorem dL_law_982 : decode cL_law 982 = Except.ok (Instr.iconst 1, 1) := by decide +kernel
theorem dL_law_983 : decode cL_law 983 = Except.ok (Instr.iadd, 1) := by decide +kernel
theorem dL_law_984 : decode cL_law 984 = Except.ok (Instr.iaload, 1) := by decide +kernel
theorem dL_law_985 : decode cL_law 985 = Except.ok (Instr.aload_n 0, 1) := by decide +kernel
theorem dL_law_986 : decode cL_law 986 = Except.ok (Instr.iload_n 3, 1) := by decide +kernel
theorem dL_law_987 : decode cL_law 987 = Except.ok (Instr.iconst 2, 1) := by decide +kernel
theorem dL_law_988 : decode cL_law 988 = Except.ok (Instr.iadd, 1) := by decide +kernel
theorem dL_law_989 : decode cL_law 989 = Except.ok (Instr.iaload, 1) := by decide +kernel
theorem dL_law_990 : decode cL_law 990 = Except.ok (Instr.aload_n 0, 1) := by decide +kernel
theorem dL_law_991 : decode cL_law 991 = Except.ok (Instr.iload_n 3, 1) := by decide +kernel
theorem dL_law_992 : decode cL_law 992 = Except.ok (Instr.iconst 3, 1) := by decide +kernel
theorem dL_law_993 : decode cL_law 993 = Except.ok (Instr.iadd, 1) := by decide +kernel
theorem dL_law_994 : decode cL_law 994 = Except.ok (Instr.iaload, 1) := by decide +kernel
theorem dL_law_995 : decode cL_law 995 = Except.ok (Instr.aload_n 0, 1) := by decide +kernel
theorem dL_law_996 : decode cL_law 996 = Except.ok (Instr.iload_n 3, 1) := by decide +kernel
theorem dL_law_997 : decode cL_law 997 = Except.ok (Instr.iconst 4, 1) := by decide +kernel
theorem dL_law_998 : decode cL_law 998 = Except.ok (Instr.iadd, 1) := by decide +kernel
theorem dL_law_999 : decode cL_law 999 = Except.ok (Instr.iaload, 1) := by decide +kernel
theorem dL_law_1000 : decode cL_law 1000 = Except.ok (Instr.invokevirtual 141, 3) := by decide +kernel
theorem dL_law_1003 : decode cL_law 1003 = Except.ok (Instr.lcmp, 1) := by decide +kernel
theorem dL_law_1004 : decode cL_law 1004 = Except.ok (Instr.ifCond .eq 201, 3) := by decide +kernel
theorem dL_law_1007 : decode cL_law 1007 = Except.ok (Instr.iconst 0, 1) := by decide +kernel
theorem dL_law_1008 : decode cL_law 1008 = Except.ok (Instr.ireturn, 1) := by decide +kernel
theorem dL_law_1009 : decode cL_law 1009 = Except.ok (Instr.aload_n 1, 1) := by decide +kernel
theorem dL_law_1010 : decode cL_law 1010 = Except.ok (Instr.aload_n 0, 1) := by decide +kernel
theorem dL_law_1011 : decode cL_law 1011 = Except.ok (Instr.iload_n 3, 1) := by decide +kernel
theorem dL_law_1012 : decode cL_law 1012 = Except.ok (Instr.iconst 1, 1) := by decide +kernel
theorem dL_law_1013 : decode cL_law 1013 = Except.ok (Instr.iadd, 1) := by decide +kernel
theorem dL_law_1014 : decode cL_law 1014 = Except.ok (Instr.iaload, 1) := by decide +kernel
theorem dL_law_1015 : decode cL_law 1015 = Except.ok (Instr.aload_n 0, 1) := by decide +kernel
theorem dL_law_1016 : decode cL_law 1016 = Except.ok (Instr.iload_n 3, 1) := by decide +kernel
theorem dL_law_1017 : decode cL_law 1017 = Except.ok (Instr.iconst 2, 1) := by decide +kernel
theorem dL_law_1018 : decode cL_law 1018 = Except.ok (Instr.iadd, 1) := by decide +kernel
theorem dL_law_1019 : decode cL_law 1019 = Except.ok (Instr.iaload, 1) := by decide +kernel
theorem dL_law_1020 : decode cL_law 1020 = Except.ok (Instr.aload_n 0, 1) := by decide +kernel
theorem dL_law_1021 : decode cL_law 1021 = Except.ok (Instr.iload_n 3, 1) := by decide +kernel
theorem dL_law_1022 : decode cL_law 1022 = Except.ok (Instr.iconst 3, 1) := by decide +kernel
theorem dL_law_1023 : decode cL_law 1023 = Except.ok (Instr.iadd, 1) := by decide +kernel
theorem dL_law_1024 : decode cL_law 1024 = Except.ok (Instr.iaload, 1) := by decide +kernel
theorem dL_law_1025 : decode cL_law 1025 = Except.ok (Instr.aload_n 0, 1) := by decide +kernel
theorem dL_law_1026 : decode cL_law 1026 = Except.ok (Instr.iload_n 3, 1) := by decide +kernel
theorem dL_law_1027 : decode cL_law 1027 = Except.ok (Instr.iconst 4, 1) := by decide +kernel
theorem dL_law_1028 : decode cL_law 1028 = Except.ok (Instr.iadd, 1) := by decide +kernel
theorem dL_law_1029 : decode cL_law 1029 = Except.ok (Instr.iaload, 1) := by decide +kernel
theorem dL_law_1030 : decode cL_law 1030 = Except.ok (Instr.invokevirtual 142, 3) := by decide +kernel
theorem dL_law_1033 : decode cL_law 1033 = Except.ok (Instr.aload_n 2, 1) := by decide +kernel
theorem dL_law_1034 : decode cL_law 1034 = Except.ok (Instr.aload_n 0, 1) := by decide +kernel
theorem dL_law_1035 : decode cL_law 1035 = Except.ok (Instr.iload_n 3, 1) := by decide +kernel
theorem dL_law_1036 : decode cL_law 1036 = Except.ok (Instr.iconst 1, 1) := by decide +kernel
theorem dL_law_1037 : decode cL_law 1037 = Except.ok (Instr.iadd, 1) := by decide +kernel
theorem dL_law_1038 : decode cL_law 1038 = Except.ok (Instr.iaload, 1) := by decide +kernel
theorem dL_law_1039 : decode cL_law 1039 = Except.ok (Instr.aload_n 0, 1) := by decide +kernel
theorem dL_law_1040 : decode cL_law 1040 = Except.ok (Instr.iload_n 3, 1) := by decide +kernel
theorem dL_law_1041 : decode cL_law 1041 = Except.ok (Instr.iconst 2, 1) := by decide +kernel
theorem dL_law_1042 : decode cL_law 1042 = Except.ok (Instr.iadd, 1) := by decide +kernel
theorem dL_law_1043 : decode cL_law 1043 = Except.ok (Instr.iaload, 1) := by decide +kernel
theorem dL_law_1044 : decode cL_law 1044 = Except.ok (Instr.aload_n 0, 1) := by decide +kernel
theorem dL_law_1045 : decode cL_law 1045 = Except.ok (Instr.iload_n 3, 1) := by decide +kernel
theorem dL_law_1046 : decode cL_law 1046 = Except.ok (Instr.iconst 3, 1) := by decide +kernel
theorem dL_law_1047 : decode cL_law 1047 = Except.ok (Instr.iadd, 1) := by decide +kernel
theorem dL_law_1048 : decode cL_law 1048 = Except.ok (Instr.iaload, 1) := by decide +kernel
theorem dL_law_1049 : decode cL_law 1049 = Except.ok (Instr.aload_n 0, 1) := by decide +kernel
theorem dL_law_1050 : decode cL_law 1050 = Except.ok (Instr.iload_n 3, 1) := by decide +kernel
theorem dL_law_1051 : decode cL_law 1051 = Except.ok (Instr.iconst 4, 1) := by decide +kernel
theorem dL_law_1052 : decode cL_law 1052 = Except.ok (Instr.iadd, 1) := by decide +kernel
theorem dL_law_1053 : decode cL_law 1053 = Except.ok (Instr.iaload, 1) := by decide +kernel
theorem dL_law_1054 : decode cL_law 1054 = Except.ok (Instr.invokevirtual 145, 3) := by decide +kernel
theorem dL_law_1057 : decode cL_law 1057 = Except.ok (Instr.lcmp, 1) := by decide +kernel
theorem dL_law_1058 : decode cL_law 1058 = Except.ok (Instr.ifCond .eq 147, 3) := by decide +kernel
theorem dL_law_1061 : decode cL_law 1061 = Except.ok (Instr.iconst 0, 1) := by decide +kernel
theorem dL_law_1062 : decode cL_law 1062 = Except.ok (Instr.ireturn, 1) := by decide +kernel
theorem dL_law_1063 : decode cL_law 1063 = Except.ok (Instr.aload_n 1, 1) := by decide +kernel
theorem dL_law_1064 : decode cL_law 1064 = Except.ok (Instr.invokevirtual 146, 3) := by decide +kernel
theorem dL_law_1067 : decode cL_law 1067 = Except.ok (Instr.aload_n 2, 1) := by decide +kernel
theorem dL_law_1068 : decode cL_law 1068 = Except.ok (Instr.invokevirtual 149, 3) := by decide +kernel
theorem dL_law_1071 : decode cL_law 1071 = Except.ok (Instr.if_icmp .eq 134, 3) := by decide +kernel
theorem dL_law_1074 : decode cL_law 1074 = Except.ok (Instr.iconst 0, 1) := by decide +kernel
theorem dL_law_1075 : decode cL_law 1075 = Except.ok (Instr.ireturn, 1) := by decide +kernel
theorem dL_law_1076 : decode cL_law 1076 = Except.ok (Instr.aload_n 1, 1) := by decide +kernel
theorem dL_law_1077 : decode cL_law 1077 = Except.ok (Instr.aload_n 0, 1) := by decide +kernel
theorem dL_law_1078 : decode cL_law 1078 = Except.ok (Instr.iload_n 3, 1) := by decide +kernel
theorem dL_law_1079 : decode cL_law 1079 = Except.ok (Instr.iconst 1, 1) := by decide +kernel
theorem dL_law_1080 : decode cL_law 1080 = Except.ok (Instr.iadd, 1) := by decide +kernel
theorem dL_law_1081 : decode cL_law 1081 = Except.ok (Instr.iaload, 1) := by decide +kernel
theorem dL_law_1082 : decode cL_law 1082 = Except.ok (Instr.invokevirtual 150, 3) := by decide +kernel
theorem dL_law_1085 : decode cL_law 1085 = Except.ok (Instr.aload_n 2, 1) := by decide +kernel
theorem dL_law_1086 : decode cL_law 1086 = Except.ok (Instr.aload_n 0, 1) := by decide +kernel
theorem dL_law_1087 : decode cL_law 1087 = Except.ok (Instr.iload_n 3, 1) := by decide +kernel
theorem dL_law_1088 : decode cL_law 1088 = Except.ok (Instr.iconst 1, 1) := by decide +kernel
theorem dL_law_1089 : decode cL_law 1089 = Except.ok (Instr.iadd, 1) := by decide +kernel
theorem dL_law_1090 : decode cL_law 1090 = Except.ok (Instr.iaload, 1) := by decide +kernel
theorem dL_law_1091 : decode cL_law 1091 = Except.ok (Instr.invokevirtual 153, 3) := by decide +kernel
theorem dL_law_1094 : decode cL_law 1094 = Except.ok (Instr.if_icmp .eq 111, 3) := by decide +kernel
theorem dL_law_1097 : decode cL_law 1097 = Except.ok (Instr.iconst 0, 1) := by decide +kernel
theorem dL_law_1098 : decode cL_law 1098 = Except.ok (Instr.ireturn, 1) := by decide +kernel
theorem dL_law_1099 : decode cL_law 1099 = Except.ok (Instr.aload_n 1, 1) := by decide +kernel
theorem dL_law_1100 : decode cL_law 1100 = Except.ok (Instr.aload_n 0, 1) := by decide +kernel
theorem dL_law_1101 : decode cL_law 1101 = Except.ok (Instr.iload_n 3, 1) := by decide +kernel
theorem dL_law_1102 : decode cL_law 1102 = Except.ok (Instr.iconst 1, 1) := by decide +kernel
theorem dL_law_1103 : decode cL_law 1103 = Except.ok (Instr.iadd, 1) := by decide +kernel
theorem dL_law_1104 : decode cL_law 1104 = Except.ok (Instr.iaload, 1) := by decide +kernel
theorem dL_law_1105 : decode cL_law 1105 = Except.ok (Instr.invokevirtual 154, 3) := by decide +kernel
theorem dL_law_1108 : decode cL_law 1108 = Except.ok (Instr.aload_n 2, 1) := by decide +kernel
theorem dL_law_1109 : decode cL_law 1109 = Except.ok (Instr.aload_n 0, 1) := by decide +kernel
theorem dL_law_1110 : decode cL_law 1110 = Except.ok (Instr.iload_n 3, 1) := by decide +kernel
theorem dL_law_1111 : decode cL_law 1111 = Except.ok (Instr.iconst 1, 1) := by decide +kernel
theorem dL_law_1112 : decode cL_law 1112 = Except.ok (Instr.iadd, 1) := by decide +kernel
theorem dL_law_1113 : decode cL_law 1113 = Except.ok (Instr.iaload, 1) := by decide +kernel
theorem dL_law_1114 : decode cL_law 1114 = Except.ok (Instr.invokevirtual 157, 3) := by decide +kernel
theorem dL_law_1117 : decode cL_law 1117 = Except.ok (Instr.if_icmp .eq 88, 3) := by decide +kernel
theorem dL_law_1120 : decode cL_law 1120 = Except.ok (Instr.iconst 0, 1) := by decide +kernel
theorem dL_law_1121 : decode cL_law 1121 = Except.ok (Instr.ireturn, 1) := by decide +kernel
theorem dL_law_1122 : decode cL_law 1122 = Except.ok (Instr.aload_n 1, 1) := by decide +kernel
theorem dL_law_1123 : decode cL_law 1123 = Except.ok (Instr.aload_n 0, 1) := by decide +kernel
theorem dL_law_1124 : decode cL_law 1124 = Except.ok (Instr.iload_n 3, 1) := by decide +kernel
theorem dL_law_1125 : decode cL_law 1125 = Except.ok (Instr.iconst 1, 1) := by decide +kernel
theorem dL_law_1126 : decode cL_law 1126 = Except.ok (Instr.iadd, 1) := by decide +kernel
theorem dL_law_1127 : decode cL_law 1127 = Except.ok (Instr.iaload, 1) := by decide +kernel
theorem dL_law_1128 : decode cL_law 1128 = Except.ok (Instr.invokevirtual 158, 3) := by decide +kernel
theorem dL_law_1131 : decode cL_law 1131 = Except.ok (Instr.aload_n 2, 1) := by decide +kernel
theorem dL_law_1132 : decode cL_law 1132 = Except.ok (Instr.aload_n 0, 1) := by decide +kernel
theorem dL_law_1133 : decode cL_law 1133 = Except.ok (Instr.iload_n 3, 1) := by decide +kernel
theorem dL_law_1134 : decode cL_law 1134 = Except.ok (Instr.iconst 1, 1) := by decide +kernel
theorem dL_law_1135 : decode cL_law 1135 = Except.ok (Instr.iadd, 1) := by decide +kernel
theorem dL_law_1136 : decode cL_law 1136 = Except.ok (Instr.iaload, 1) := by decide +kernel
theorem dL_law_1137 : decode cL_law 1137 = Except.ok (Instr.invokevirtual 161, 3) := by decide +kernel
theorem dL_law_1140 : decode cL_law 1140 = Except.ok (Instr.if_icmp .eq 65, 3) := by decide +kernel
theorem dL_law_1143 : decode cL_law 1143 = Except.ok (Instr.iconst 0, 1) := by decide +kernel
theorem dL_law_1144 : decode cL_law 1144 = Except.ok (Instr.ireturn, 1) := by decide +kernel
theorem dL_law_1145 : decode cL_law 1145 = Except.ok (Instr.aload_n 1, 1) := by decide +kernel
theorem dL_law_1146 : decode cL_law 1146 = Except.ok (Instr.aload_n 0, 1) := by decide +kernel
theorem dL_law_1147 : decode cL_law 1147 = Except.ok (Instr.iload_n 3, 1) := by decide +kernel
theorem dL_law_1148 : decode cL_law 1148 = Except.ok (Instr.iconst 1, 1) := by decide +kernel
theorem dL_law_1149 : decode cL_law 1149 = Except.ok (Instr.iadd, 1) := by decide +kernel
theorem dL_law_1150 : decode cL_law 1150 = Except.ok (Instr.iaload, 1) := by decide +kernel
theorem dL_law_1151 : decode cL_law 1151 = Except.ok (Instr.invokevirtual 162, 3) := by decide +kernel
theorem dL_law_1154 : decode cL_law 1154 = Except.ok (Instr.aload_n 2, 1) := by decide +kernel
theorem dL_law_1155 : decode cL_law 1155 = Except.ok (Instr.aload_n 0, 1) := by decide +kernel
theorem dL_law_1156 : decode cL_law 1156 = Except.ok (Instr.iload_n 3, 1) := by decide +kernel
theorem dL_law_1157 : decode cL_law 1157 = Except.ok (Instr.iconst 1, 1) := by decide +kernel
theorem dL_law_1158 : decode cL_law 1158 = Except.ok (Instr.iadd, 1) := by decide +kernel
theorem dL_law_1159 : decode cL_law 1159 = Except.ok (Instr.iaload, 1) := by decide +kernel
theorem dL_law_1160 : decode cL_law 1160 = Except.ok (Instr.invokevirtual 165, 3) := by decide +kernel
theorem dL_law_1163 : decode cL_law 1163 = Except.ok (Instr.lcmp, 1) := by decide +kernel
theorem dL_law_1164 : decode cL_law 1164 = Except.ok (Instr.ifCond .eq 41, 3) := by decide +kernel
theorem dL_law_1167 : decode cL_law 1167 = Except.ok (Instr.iconst 0, 1) := by decide +kernel
theorem dL_law_1168 : decode cL_law 1168 = Except.ok (Instr.ireturn, 1) := by decide +kernel
theorem dL_law_1169 : decode cL_law 1169 = Except.ok (Instr.aload_n 1, 1) := by decide +kernel
theorem dL_law_1170 : decode cL_law 1170 = Except.ok (Instr.aload_n 0, 1) := by decide +kernel
theorem dL_law_1171 : decode cL_law 1171 = Except.ok (Instr.iload_n 3, 1) := by decide +kernel
theorem dL_law_1172 : decode cL_law 1172 = Except.ok (Instr.iconst 1, 1) := by decide +kernel
theorem dL_law_1173 : decode cL_law 1173 = Except.ok (Instr.iadd, 1) := by decide +kernel
theorem dL_law_1174 : decode cL_law 1174 = Except.ok (Instr.iaload, 1) := by decide +kernel
theorem dL_law_1175 : decode cL_law 1175 = Except.ok (Instr.invokevirtual 166, 3) := by decide +kernel
theorem dL_law_1178 : decode cL_law 1178 = Except.ok (Instr.aload_n 2, 1) := by decide +kernel
theorem dL_law_1179 : decode cL_law 1179 = Except.ok (Instr.aload_n 0, 1) := by decide +kernel
theorem dL_law_1180 : decode cL_law 1180 = Except.ok (Instr.iload_n 3, 1) := by decide +kernel
theorem dL_law_1181 : decode cL_law 1181 = Except.ok (Instr.iconst 1, 1) := by decide +kernel
theorem dL_law_1182 : decode cL_law 1182 = Except.ok (Instr.iadd, 1) := by decide +kernel
theorem dL_law_1183 : decode cL_law 1183 = Except.ok (Instr.iaload, 1) := by decide +kernel
theorem dL_law_1184 : decode cL_law 1184 = Except.ok (Instr.invokevirtual 169, 3) := by decide +kernel
theorem dL_law_1187 : decode cL_law 1187 = Except.ok (Instr.if_icmp .eq 18, 3) := by decide +kernel
theorem dL_law_1190 : decode cL_law 1190 = Except.ok (Instr.iconst 0, 1) := by decide +kernel
theorem dL_law_1191 : decode cL_law 1191 = Except.ok (Instr.ireturn, 1) := by decide +kernel
theorem dL_law_1192 : decode cL_law 1192 = Except.ok (Instr.aload_n 1, 1) := by decide +kernel
theorem dL_law_1193 : decode cL_law 1193 = Except.ok (Instr.invokevirtual 170, 3) := by decide +kernel
theorem dL_law_1196 : decode cL_law 1196 = Except.ok (Instr.aload_n 2, 1) := by decide +kernel
theorem dL_law_1197 : decode cL_law 1197 = Except.ok (Instr.invokevirtual 173, 3) := by decide +kernel
theorem dL_law_1200 : decode cL_law 1200 = Except.ok (Instr.if_icmp .eq 5, 3) := by decide +kernel
theorem dL_law_1203 : decode cL_law 1203 = Except.ok (Instr.iconst 0, 1) := by decide +kernel
theorem dL_law_1204 : decode cL_law 1204 = Except.ok (Instr.ireturn, 1) := by decide +kernel
theorem dL_law_1205 : decode cL_law 1205 = Except.ok (Instr.iinc 3 6, 3) := by decide +kernel
theorem dL_law_1208 : decode cL_law 1208 = Except.ok (Instr.goto (-1190), 3) := by decide +kernel
theorem dL_law_1211 : decode cL_law 1211 = Except.ok (Instr.iconst 1, 1) := by decide +kernel
theorem dL_law_1212 : decode cL_law 1212 = Except.ok (Instr.ireturn, 1) := by decide +kernel
set_option maxRecDepth 20000 in
theorem ggL_law_X8_init : GoodIn wsL_law wsX8_init := goodIn_r _ [8, 9, 10, 11, 12, 13, 14, 15, 16, 17, 18, 19, 20, 21, 22, 23, 24, 25, 26, 27, 28, 29, 30, 31, 32, 33, 34, 35, 36, 37, 38, 39, 40, 41, 42, 43, 44, 45, 46, 47, 48, 49, 50, 51, 52, 53, 54, 55, 56, 57, 58, 59, 60, 61, 62, 63, 64, 65, 66, 67, 68, 69, 70, 71, 72, 73, 74, 75, 76, 77, 78, 79, 80, 81, 82, 83, 84, 85, 86, 87, 88, 89, 90, 91, 92, 93, 94, 95, 96, 97, 98, 99, 100, 101, 102, 103, 104, 105, 106, 107, 108, 109, 110, 111, 112, 113, 114, 115, 116, 117, 118, 119, 120, 121, 1028, 1029, 1030, 1031, 1032, 971, 972, 973, 974, 975, 976, 977, 978, 979, 980, 981, 982, 983, 984, 1033, 1034, 1035, 1036, 1037, 1038, 1039, 1040, 1041, 1042, 1043, 1044, 1045, 1046, 1047, 1048, 1049, 1050, 1051, 1052, 1053, 1054, 1055, 1056, 1057, 1058, 1059, 1060, 1061, 1062, 1063, 1064, 1065, 1066, 1067, 1068, 1069] (by decide +kernel) (by decide +kernel)
set_option maxRecDepth 20000 in
theorem gL_law_X8_init : GoodIn wsL_law (wsX8_init) := ggL_law_X8_init
set_option maxRecDepth 20000 in
theorem ggL_law_X9_init : GoodIn wsL_law wsX9_init := goodIn_r _ [124, 125, 10, 11, 36, 126, 127, 128, 129, 130, 131, 132, 133, 69, 134, 135, 136, 137, 138, 139, 140, 141, 142, 143, 144, 145, 146, 147, 148, 149, 150, 91, 151, 152, 153, 154, 155, 156, 157, 158, 5, 159, 160, 161, 162, 163, 164, 165, 166, 167, 168, 169, 170, 171, 172, 173, 985, 986, 987, 988, 989, 990, 991, 992, 993, 994, 995, 996, 997, 998, 999, 1000, 1001, 1002, 1003, 1004, 1005, 1006, 1007, 1008, 1009, 1010, 1011, 1012, 1013, 1014, 1015, 1016, 1017, 1018, 1019, 1020, 1021, 1022, 1023, 1024, 1025, 1026, 1027] (by decide +kernel) (by decide +kernel)
set_option maxRecDepth 20000 in
theorem gL_law_X9_init : GoodIn wsL_law (wsX9_init) := ggL_law_X9_init
set_option maxRecDepth 20000 in
theorem ggL_law_X8_setGyro : GoodIn wsL_law wsX8_setGyro := goodIn_r _ [177, 178, 179, 180, 23, 181, 182, 183, 184, 185, 186, 187, 188, 189, 190, 191, 192, 193, 22, 194, 78, 79, 80, 81, 195, 971, 972, 973, 974, 975, 976, 977, 978, 979, 980, 981, 982, 983, 984, 1038, 1039, 1040, 1041, 1042, 1043, 1044, 1045, 1046, 1047] (by decide +kernel) (by decide +kernel)
set_option maxRecDepth 20000 in
theorem gL_law_X8_setGyro : GoodIn wsL_law (wsV RL 13 RX8 yX8_setGyro wsX8_setGyro) := goodIn_app (goodIn_of _ (by decide +kernel)) ggL_law_X8_setGyro
set_option maxRecDepth 20000 in
theorem ggL_law_X9_setGyro : GoodIn wsL_law wsX9_setGyro := goodIn_r _ [199, 200, 201, 202, 203, 204, 205, 134, 135, 136, 137, 206, 207, 5, 208, 209, 210, 211, 212, 985, 986, 987, 988, 989, 990, 991, 992, 993, 994, 995, 996, 997, 998, 999, 1000, 1001, 1002, 1003, 1004, 1005, 1006, 1007, 1008, 1009, 1010, 1011, 1012, 1013, 1014, 1015, 1016, 1017, 1018, 1019, 1020, 1021, 1022, 1023, 1024, 1025, 1026, 1027] (by decide +kernel) (by decide +kernel)
set_option maxRecDepth 20000 in
theorem gL_law_X9_setGyro : GoodIn wsL_law (wsV RL 17 RX9 yX9_setGyro wsX9_setGyro) := goodIn_app (goodIn_of _ (by decide +kernel)) ggL_law_X9_setGyro
set_option maxRecDepth 20000 in
theorem ggL_law_X8_setAccelerometer : GoodIn wsL_law wsX8_setAccelerometer := goodIn_r _ [216, 217, 23, 181, 182, 183, 184, 185, 186, 187, 218, 219, 220, 22, 221, 82, 195, 971, 972, 973, 974, 975, 976, 977, 978, 979, 980, 981, 982, 983, 984, 1038, 1039, 1040, 1041, 1042, 1043, 1044, 1045, 1046, 1047] (by decide +kernel) (by decide +kernel)
set_option maxRecDepth 20000 in
theorem gL_law_X8_setAccelerometer : GoodIn wsL_law (wsV RL 18 RX8 yX8_setAccelerometer wsX8_setAccelerometer) := goodIn_app (goodIn_of _ (by decide +kernel)) ggL_law_X8_setAccelerometer
set_option maxRecDepth 20000 in
theorem ggL_law_X9_setAccelerometer : GoodIn wsL_law wsX9_setAccelerometer := goodIn_r _ [225, 226, 227, 138, 206, 207, 5, 208, 209, 210, 211, 212, 985, 986, 987, 988, 989, 990, 991, 992, 993, 994, 995, 996, 997, 998, 999, 1000, 1001, 1002, 1003, 1004, 1005, 1006, 1007, 1008, 1009, 1010, 1011, 1012, 1013, 1014, 1015, 1016, 1017, 1018, 1019, 1020, 1021, 1022, 1023, 1024, 1025, 1026, 1027] (by decide +kernel) (by decide +kernel)
set_option maxRecDepth 20000 in
theorem gL_law_X9_setAccelerometer : GoodIn wsL_law (wsV RL 22 RX9 yX9_setAccelerometer wsX9_setAccelerometer) := goodIn_app (goodIn_of _ (by decide +kernel)) ggL_law_X9_setAccelerometer
set_option maxRecDepth 20000 in
theorem ggL_law_X8_setEarthRate : GoodIn wsL_law wsX8_setEarthRate := goodIn_r _ [231, 232, 37, 185, 186, 183, 187, 971, 972, 973, 974, 975, 976, 977, 978, 979, 980, 981, 982, 983, 984] (by decide +kernel) (by decide +kernel)
set_option maxRecDepth 20000 in
theorem gL_law_X8_setEarthRate : GoodIn wsL_law (wsV RL 23 RX8 yX8_setEarthRate wsX8_setEarthRate) := goodIn_app (goodIn_of _ (by decide +kernel)) ggL_law_X8_setEarthRate
set_option maxRecDepth 20000 in
theorem ggL_law_X9_setEarthRate : GoodIn wsL_law wsX9_setEarthRate := goodIn_r _ [236, 237, 238, 161, 162, 210, 211, 5, 212, 985, 986, 987, 988, 989, 990, 991, 992, 993, 994, 995, 996, 997, 998, 999, 1000, 1001, 1002, 1003, 1004, 1005, 1006, 1007, 1008, 1009, 1010, 1011, 1012, 1013, 1014, 1015, 1016, 1017, 1018, 1019, 1020, 1021, 1022, 1023, 1024, 1025, 1026, 1027] (by decide +kernel) (by decide +kernel)
set_option maxRecDepth 20000 in
theorem gL_law_X9_setEarthRate : GoodIn wsL_law (wsV RL 26 RX9 yX9_setEarthRate wsX9_setEarthRate) := goodIn_app (goodIn_of _ (by decide +kernel)) ggL_law_X9_setEarthRate
set_option maxRecDepth 20000 in
theorem ggL_law_X8_setTemperature : GoodIn wsL_law wsX8_setTemperature := goodIn_r _ [242, 23, 188, 189, 183, 190, 243, 244, 245, 22, 246, 86, 971, 972, 973, 974, 975, 976, 977, 978, 979, 980, 981, 982, 983, 984, 1038, 1039, 1040, 1041, 1042, 1043, 1044, 1045, 1046, 1047] (by decide +kernel) (by decide +kernel)
set_option maxRecDepth 20000 in
theorem gL_law_X8_setTemperature : GoodIn wsL_law (wsV RL 27 RX8 yX8_setTemperature wsX8_setTemperature) := goodIn_app (goodIn_of _ (by decide +kernel)) ggL_law_X8_setTemperature
set_option maxRecDepth 20000 in
theorem ggL_law_X9_setTemperature : GoodIn wsL_law wsX9_setTemperature := goodIn_r _ [250, 251, 252, 163, 210, 211, 5, 212, 985, 986, 987, 988, 989, 990, 991, 992, 993, 994, 995, 996, 997, 998, 999, 1000, 1001, 1002, 1003, 1004, 1005, 1006, 1007, 1008, 1009, 1010, 1011, 1012, 1013, 1014, 1015, 1016, 1017, 1018, 1019, 1020, 1021, 1022, 1023, 1024, 1025, 1026, 1027] (by decide +kernel) (by decide +kernel)
set_option maxRecDepth 20000 in
theorem gL_law_X9_setTemperature : GoodIn wsL_law (wsV RL 31 RX9 yX9_setTemperature wsX9_setTemperature) := goodIn_app (goodIn_of _ (by decide +kernel)) ggL_law_X9_setTemperature
set_option maxRecDepth 20000 in
theorem ggL_law_X8_setSeed : GoodIn wsL_law wsX8_setSeed := goodIn_r _ [256, 23, 257, 258, 259, 22, 260, 261, 971, 972, 973, 974, 975, 976, 977, 978, 979, 980, 981, 982, 983, 984, 1038, 1039, 1040, 1041, 1042, 1043, 1044, 1045, 1046, 1047] (by decide +kernel) (by decide +kernel)
set_option maxRecDepth 20000 in
theorem gL_law_X8_setSeed : GoodIn wsL_law (wsV RL 32 RX8 yX8_setSeed wsX8_setSeed) := goodIn_app (goodIn_of _ (by decide +kernel)) ggL_law_X8_setSeed
set_option maxRecDepth 20000 in
theorem ggL_law_X9_setSeed : GoodIn wsL_law wsX9_setSeed := goodIn_r _ [265, 164, 985, 986, 987, 988, 989, 990, 991, 992, 993, 994, 995, 996, 997, 998, 999, 1000, 1001, 1002, 1003, 1004, 1005, 1006, 1007, 1008, 1009, 1010, 1011, 1012, 1013, 1014, 1015, 1016, 1017, 1018, 1019, 1020, 1021, 1022, 1023, 1024, 1025, 1026, 1027] (by decide +kernel) (by decide +kernel)
set_option maxRecDepth 20000 in
theorem gL_law_X9_setSeed : GoodIn wsL_law (wsV RL 35 RX9 yX9_setSeed wsX9_setSeed) := goodIn_app (goodIn_of _ (by decide +kernel)) ggL_law_X9_setSeed
set_option maxRecDepth 20000 in
theorem ggL_law_X8_addSegment : GoodIn wsL_law wsX8_addSegment := goodIn_r _ [269, 19, 188, 189, 183, 190, 270, 271, 2, 272, 273, 185, 186, 187, 274, 275, 276, 18, 277, 278, 70, 71, 72, 73, 971, 972, 973, 974, 975, 976, 977, 978, 979, 980, 981, 982, 983, 984, 1033, 1034, 1035, 1036, 1037] (by decide +kernel) (by decide +kernel)
set_option maxRecDepth 20000 in
theorem gL_law_X8_addSegment : GoodIn wsL_law (wsV RL 36 RX8 yX8_addSegment wsX8_addSegment) := goodIn_app (goodIn_of _ (by decide +kernel)) ggL_law_X8_addSegment
set_option maxRecDepth 20000 in
theorem ggL_law_X9_addSegment : GoodIn wsL_law wsX9_addSegment := goodIn_r _ [282, 205, 166, 139, 140, 210, 211, 5, 212, 283, 284, 285, 286, 287, 985, 986, 987, 988, 989, 990, 991, 992, 993, 994, 995, 996, 997, 998, 999, 1000, 1001, 1002, 1003, 1004, 1005, 1006, 1007, 1008, 1009, 1010, 1011, 1012, 1013, 1014, 1015, 1016, 1017, 1018, 1019, 1020, 1021, 1022, 1023, 1024, 1025, 1026, 1027] (by decide +kernel) (by decide +kernel)
set_option maxRecDepth 20000 in
theorem gL_law_X9_addSegment : GoodIn wsL_law (wsV RL 40 RX9 yX9_addSegment wsX9_addSegment) := goodIn_app (goodIn_of _ (by decide +kernel)) ggL_law_X9_addSegment
set_option maxRecDepth 20000 in
theorem ggL_law_X8_clearScript : GoodIn wsL_law wsX8_clearScript := goodIn_r _ [291, 19, 292, 293, 294, 18, 295, 278, 971, 972, 973, 974, 975, 976, 977, 978, 979, 980, 981, 982, 983, 984, 1033, 1034, 1035, 1036, 1037] (by decide +kernel) (by decide +kernel)
set_option maxRecDepth 20000 in
theorem gL_law_X8_clearScript : GoodIn wsL_law (wsV RL 41 RX8 yX8_clearScript wsX8_clearScript) := goodIn_app (goodIn_of _ (by decide +kernel)) ggL_law_X8_clearScript
set_option maxRecDepth 20000 in
theorem ggL_law_X9_clearScript : GoodIn wsL_law wsX9_clearScript := goodIn_r _ [299, 166, 985, 986, 987, 988, 989, 990, 991, 992, 993, 994, 995, 996, 997, 998, 999, 1000, 1001, 1002, 1003, 1004, 1005, 1006, 1007, 1008, 1009, 1010, 1011, 1012, 1013, 1014, 1015, 1016, 1017, 1018, 1019, 1020, 1021, 1022, 1023, 1024, 1025, 1026, 1027] (by decide +kernel) (by decide +kernel)
set_option maxRecDepth 20000 in
theorem gL_law_X9_clearScript : GoodIn wsL_law (wsV RL 45 RX9 yX9_clearScript wsX9_clearScript) := goodIn_app (goodIn_of _ (by decide +kernel)) ggL_law_X9_clearScript
set_option maxRecDepth 20000 in
theorem ggL_law_X8_scriptTicks : GoodIn wsL_law wsX8_scriptTicks := goodIn_r _ [303, 19, 304, 305, 306, 18, 307, 278, 70, 971, 972, 973, 974, 975, 976, 977, 978, 979, 980, 981, 982, 983, 984, 1033, 1034, 1035, 1036, 1037] (by decide +kernel) (by decide +kernel)
set_option maxRecDepth 20000 in
theorem gL_law_X8_scriptTicks : GoodIn wsL_law (wsV RL 46 RX8 yX8_scriptTicks wsX8_scriptTicks) := goodIn_app (goodIn_of _ (by decide +kernel)) ggL_law_X8_scriptTicks
set_option maxRecDepth 20000 in
theorem ggL_law_X9_scriptTicks : GoodIn wsL_law wsX9_scriptTicks := goodIn_r _ [311, 166, 139, 985, 986, 987, 988, 989, 990, 991, 992, 993, 994, 995, 996, 997, 998, 999, 1000, 1001, 1002, 1003, 1004, 1005, 1006, 1007, 1008, 1009, 1010, 1011, 1012, 1013, 1014, 1015, 1016, 1017, 1018, 1019, 1020, 1021, 1022, 1023, 1024, 1025, 1026, 1027] (by decide +kernel) (by decide +kernel)
set_option maxRecDepth 20000 in
theorem gL_law_X9_scriptTicks : GoodIn wsL_law (wsV RL 49 RX9 yX9_scriptTicks wsX9_scriptTicks) := goodIn_app (goodIn_of _ (by decide +kernel)) ggL_law_X9_scriptTicks
set_option maxRecDepth 20000 in
theorem ggL_law_X8_turnTruth : GoodIn wsL_law wsX8_turnTruth := goodIn_r _ [315, 15, 270, 271, 2, 272, 273, 185, 186, 183, 187, 316, 317, 318, 14, 319, 56, 320, 321, 322, 323, 324, 325, 326, 327, 328, 47, 46, 49, 329, 330, 331, 332, 333, 334, 335, 61, 62, 63, 64, 51, 65, 971, 972, 973, 974, 975, 976, 977, 978, 979, 980, 981, 982, 983, 984, 1028, 1029, 1030, 1031, 1032] (by decide +kernel) (by decide +kernel)
set_option maxRecDepth 20000 in
theorem gL_law_X8_turnTruth : GoodIn wsL_law (wsV RL 50 RX8 yX8_turnTruth wsX8_turnTruth) := goodIn_app (goodIn_of _ (by decide +kernel)) ggL_law_X8_turnTruth
set_option maxRecDepth 20000 in
theorem ggL_law_X9_turnTruth : GoodIn wsL_law wsX9_turnTruth := goodIn_r _ [339, 126, 283, 284, 5, 285, 286, 287, 210, 211, 212, 340, 341, 342, 343, 160, 344, 128, 129, 345, 346, 347, 348, 349, 350, 351, 985, 986, 987, 988, 989, 990, 991, 992, 993, 994, 995, 996, 997, 998, 999, 1000, 1001, 1002, 1003, 1004, 1005, 1006, 1007, 1008, 1009, 1010, 1011, 1012, 1013, 1014, 1015, 1016, 1017, 1018, 1019, 1020, 1021, 1022, 1023, 1024, 1025, 1026, 1027] (by decide +kernel) (by decide +kernel)
set_option maxRecDepth 20000 in
theorem gL_law_X9_turnTruth : GoodIn wsL_law (wsV RL 54 RX9 yX9_turnTruth wsX9_turnTruth) := goodIn_app (goodIn_of _ (by decide +kernel)) ggL_law_X9_turnTruth
set_option maxRecDepth 20000 in
theorem ggL_law_X8_run : GoodIn wsL_law wsX8_run := goodIn_r _ [355, 356, 357, 188, 189, 183, 190, 358, 359, 360, 2, 361, 19, 38, 23, 37, 15, 31, 27, 362, 363, 364, 365, 366, 367, 368, 369, 370, 18, 371, 278, 71, 72, 73, 70, 372, 58, 59, 60, 373, 374, 375, 376, 377, 378, 379, 380, 381, 382, 383, 22, 384, 85, 83, 79, 385, 78, 81, 86, 80, 386, 387, 388, 14, 389, 390, 391, 392, 393, 51, 394, 182, 184, 395, 322, 323, 324, 396, 397, 398, 399, 400, 401, 402, 261, 403, 316, 317, 318, 319, 56, 320, 321, 325, 326, 327, 328, 47, 46, 49, 329, 330, 331, 332, 333, 334, 335, 61, 62, 63, 64, 65, 404, 405, 406, 407, 84, 82, 408, 409, 410, 30, 411, 412, 413, 414, 415, 102, 106, 103, 416, 417, 418, 419, 420, 421, 422, 26, 423, 90, 424, 425, 426, 427, 428, 429, 430, 431, 432, 433, 434, 435, 436, 101, 437, 115, 438, 439, 440, 441, 442, 443, 444, 445, 446, 447, 98, 108, 107, 110, 105, 109, 448, 449, 450, 451, 452, 453, 454, 455, 456, 457, 458, 459, 460, 461, 462, 463, 464, 465, 466, 467, 468, 469, 470, 471, 472, 104, 473, 474, 475, 476, 477, 478, 186, 187, 479, 480, 481, 482, 483, 484, 485, 486, 487, 488, 489, 490, 491, 492, 493, 494, 495, 496, 497, 498, 499, 500, 501, 502, 503, 504, 505, 506, 507, 508, 509, 510, 511, 512, 513, 514, 48, 515, 516, 517, 518, 519, 520, 971, 972, 973, 974, 975, 976, 977, 978, 979, 980, 981, 982, 983, 984, 1033, 1034, 1035, 1036, 1037, 1038, 1039, 1040, 1041, 1042, 1043, 1044, 1045, 1046, 1047, 1028, 1029, 1030, 1031, 1032, 1051, 1052, 1053, 1054, 1055, 1056, 1057, 1058, 1059, 1060, 1061, 1062, 1048, 1049, 1050, 1067, 1068, 1069] (by decide +kernel) (by decide +kernel)
set_option maxRecDepth 20000 in
theorem gL_law_X8_run : GoodIn wsL_law (wsV RL 55 RX8 yX8_run wsX8_run) := goodIn_app (goodIn_of _ (by decide +kernel)) ggL_law_X8_run
set_option maxRecDepth 20000 in
theorem ggL_law_X9_run : GoodIn wsL_law wsX9_run := goodIn_r _ [524, 525, 165, 526, 210, 211, 5, 212, 527, 528, 529, 530, 143, 166, 140, 139, 168, 169, 170, 152, 126, 127, 172, 531, 532, 533, 534, 535, 536, 537, 538, 131, 136, 141, 135, 539, 134, 137, 163, 540, 142, 138, 541, 542, 543, 544, 161, 162, 545, 546, 547, 548, 130, 549, 550, 551, 552, 160, 209, 553, 554, 555, 556, 164, 557, 345, 346, 347, 340, 341, 342, 343, 344, 128, 129, 348, 349, 350, 351, 558, 559, 560, 561, 562, 563, 564, 565, 566, 147, 144, 146, 145, 132, 167, 149, 567, 568, 569, 570, 571, 572, 573, 574, 575, 151, 150, 576, 577, 578, 579, 580, 581, 582, 583, 584, 585, 586, 587, 588, 589, 148, 590, 591, 592, 593, 594, 595, 596, 597, 171, 598, 599, 600, 601, 133, 602, 603, 604, 605, 985, 986, 987, 988, 989, 990, 991, 992, 993, 994, 995, 996, 997, 998, 999, 1000, 1001, 1002, 1003, 1004, 1005, 1006, 1007, 1008, 1009, 1010, 1011, 1012, 1013, 1014, 1015, 1016, 1017, 1018, 1019, 1020, 1021, 1022, 1023, 1024, 1025, 1026, 1027] (by decide +kernel) (by decide +kernel)
set_option maxRecDepth 20000 in
theorem gL_law_X9_run : GoodIn wsL_law (wsV RL 58 RX9 yX9_run wsX9_run) := goodIn_app (goodIn_of _ (by decide +kernel)) ggL_law_X9_run
set_option maxRecDepth 20000 in
theorem ggL_law_X8_time : GoodIn wsL_law wsX8_time := goodIn_r _ [609, 356, 971, 972, 973, 974, 975, 976, 977, 978, 979, 980, 981, 982, 983, 984] (by decide +kernel) (by decide +kernel)
set_option maxRecDepth 20000 in
theorem gL_law_X8_time : GoodIn wsL_law (wsV RL 59 RX8 yX8_time wsX8_time) := goodIn_app (goodIn_of _ (by decide +kernel)) ggL_law_X8_time
set_option maxRecDepth 20000 in
theorem ggL_law_X9_time : GoodIn wsL_law wsX9_time := goodIn_r _ [613, 165, 985, 986, 987, 988, 989, 990, 991, 992, 993, 994, 995, 996, 997, 998, 999, 1000, 1001, 1002, 1003, 1004, 1005, 1006, 1007, 1008, 1009, 1010, 1011, 1012, 1013, 1014, 1015, 1016, 1017, 1018, 1019, 1020, 1021, 1022, 1023, 1024, 1025, 1026, 1027] (by decide +kernel) (by decide +kernel)
set_option maxRecDepth 20000 in
theorem gL_law_X9_time : GoodIn wsL_law (wsV RL 62 RX9 yX9_time wsX9_time) := goodIn_app (goodIn_of _ (by decide +kernel)) ggL_law_X9_time
set_option maxRecDepth 20000 in
theorem ggL_law_X8_gyro : GoodIn wsL_law wsX8_gyro := goodIn_r _ [617, 23, 618, 619, 183, 620, 971, 972, 973, 974, 975, 976, 977, 978, 979, 980, 981, 982, 983, 984, 1038, 1039, 1040, 1041, 1042, 1043, 1044, 1045, 1046, 1047] (by decide +kernel) (by decide +kernel)
set_option maxRecDepth 20000 in
theorem gL_law_X8_gyro : GoodIn wsL_law (wsV RL 63 RX8 yX8_gyro wsX8_gyro) := goodIn_app (goodIn_of _ (by decide +kernel)) ggL_law_X8_gyro
set_option maxRecDepth 20000 in
theorem ggL_law_X9_gyro : GoodIn wsL_law wsX9_gyro := goodIn_r _ [624, 141, 206, 207, 5, 208, 209, 210, 211, 212, 985, 986, 987, 988, 989, 990, 991, 992, 993, 994, 995, 996, 997, 998, 999, 1000, 1001, 1002, 1003, 1004, 1005, 1006, 1007, 1008, 1009, 1010, 1011, 1012, 1013, 1014, 1015, 1016, 1017, 1018, 1019, 1020, 1021, 1022, 1023, 1024, 1025, 1026, 1027] (by decide +kernel) (by decide +kernel)
set_option maxRecDepth 20000 in
theorem gL_law_X9_gyro : GoodIn wsL_law (wsV RL 67 RX9 yX9_gyro wsX9_gyro) := goodIn_app (goodIn_of _ (by decide +kernel)) ggL_law_X9_gyro
set_option maxRecDepth 20000 in
theorem ggL_law_X8_accelerometer : GoodIn wsL_law wsX8_accelerometer := goodIn_r _ [628, 23, 618, 619, 183, 620, 971, 972, 973, 974, 975, 976, 977, 978, 979, 980, 981, 982, 983, 984, 1038, 1039, 1040, 1041, 1042, 1043, 1044, 1045, 1046, 1047] (by decide +kernel) (by decide +kernel)
set_option maxRecDepth 20000 in
theorem gL_law_X8_accelerometer : GoodIn wsL_law (wsV RL 68 RX8 yX8_accelerometer wsX8_accelerometer) := goodIn_app (goodIn_of _ (by decide +kernel)) ggL_law_X8_accelerometer
set_option maxRecDepth 20000 in
theorem ggL_law_X9_accelerometer : GoodIn wsL_law wsX9_accelerometer := goodIn_r _ [632, 142, 206, 207, 5, 208, 209, 210, 211, 212, 985, 986, 987, 988, 989, 990, 991, 992, 993, 994, 995, 996, 997, 998, 999, 1000, 1001, 1002, 1003, 1004, 1005, 1006, 1007, 1008, 1009, 1010, 1011, 1012, 1013, 1014, 1015, 1016, 1017, 1018, 1019, 1020, 1021, 1022, 1023, 1024, 1025, 1026, 1027] (by decide +kernel) (by decide +kernel)
set_option maxRecDepth 20000 in
theorem gL_law_X9_accelerometer : GoodIn wsL_law (wsV RL 71 RX9 yX9_accelerometer wsX9_accelerometer) := goodIn_app (goodIn_of _ (by decide +kernel)) ggL_law_X9_accelerometer
set_option maxRecDepth 20000 in
theorem ggL_law_X8_setMethod : GoodIn wsL_law wsX8_setMethod := goodIn_r _ [636, 31, 188, 189, 183, 190, 637, 638, 639, 30, 640, 110, 971, 972, 973, 974, 975, 976, 977, 978, 979, 980, 981, 982, 983, 984, 1051, 1052, 1053, 1054, 1055, 1056, 1057, 1058, 1059, 1060, 1061, 1062] (by decide +kernel) (by decide +kernel)
set_option maxRecDepth 20000 in
theorem gL_law_X8_setMethod : GoodIn wsL_law (wsV RL 72 RX8 yX8_setMethod wsX8_setMethod) := goodIn_app (goodIn_of _ (by decide +kernel)) ggL_law_X8_setMethod
set_option maxRecDepth 20000 in
theorem ggL_law_X9_setMethod : GoodIn wsL_law wsX9_setMethod := goodIn_r _ [644, 209, 167, 210, 211, 5, 212, 985, 986, 987, 988, 989, 990, 991, 992, 993, 994, 995, 996, 997, 998, 999, 1000, 1001, 1002, 1003, 1004, 1005, 1006, 1007, 1008, 1009, 1010, 1011, 1012, 1013, 1014, 1015, 1016, 1017, 1018, 1019, 1020, 1021, 1022, 1023, 1024, 1025, 1026, 1027] (by decide +kernel) (by decide +kernel)
set_option maxRecDepth 20000 in
theorem gL_law_X9_setMethod : GoodIn wsL_law (wsV RL 75 RX9 yX9_setMethod wsX9_setMethod) := goodIn_app (goodIn_of _ (by decide +kernel)) ggL_law_X9_setMethod
set_option maxRecDepth 20000 in
theorem ggL_law_X8_setLevelling : GoodIn wsL_law wsX8_setLevelling := goodIn_r _ [648, 31, 188, 189, 183, 190, 649, 650, 651, 30, 652, 467, 971, 972, 973, 974, 975, 976, 977, 978, 979, 980, 981, 982, 983, 984, 1051, 1052, 1053, 1054, 1055, 1056, 1057, 1058, 1059, 1060, 1061, 1062] (by decide +kernel) (by decide +kernel)
set_option maxRecDepth 20000 in
theorem gL_law_X8_setLevelling : GoodIn wsL_law (wsV RL 76 RX8 yX8_setLevelling wsX8_setLevelling) := goodIn_app (goodIn_of _ (by decide +kernel)) ggL_law_X8_setLevelling
set_option maxRecDepth 20000 in
theorem ggL_law_X9_setLevelling : GoodIn wsL_law wsX9_setLevelling := goodIn_r _ [656, 657, 168, 210, 211, 5, 212, 985, 986, 987, 988, 989, 990, 991, 992, 993, 994, 995, 996, 997, 998, 999, 1000, 1001, 1002, 1003, 1004, 1005, 1006, 1007, 1008, 1009, 1010, 1011, 1012, 1013, 1014, 1015, 1016, 1017, 1018, 1019, 1020, 1021, 1022, 1023, 1024, 1025, 1026, 1027] (by decide +kernel) (by decide +kernel)
set_option maxRecDepth 20000 in
theorem gL_law_X9_setLevelling : GoodIn wsL_law (wsV RL 79 RX9 yX9_setLevelling wsX9_setLevelling) := goodIn_app (goodIn_of _ (by decide +kernel)) ggL_law_X9_setLevelling
set_option maxRecDepth 20000 in
theorem ggL_law_X8_setHeading : GoodIn wsL_law wsX8_setHeading := goodIn_r _ [661, 31, 188, 189, 183, 190, 662, 663, 664, 30, 665, 472, 104, 666, 58, 59, 60, 971, 972, 973, 974, 975, 976, 977, 978, 979, 980, 981, 982, 983, 984, 1051, 1052, 1053, 1054, 1055, 1056, 1057, 1058, 1059, 1060, 1061, 1062] (by decide +kernel) (by decide +kernel)
set_option maxRecDepth 20000 in
theorem gL_law_X8_setHeading : GoodIn wsL_law (wsV RL 80 RX8 yX8_setHeading wsX8_setHeading) := goodIn_app (goodIn_of _ (by decide +kernel)) ggL_law_X8_setHeading
set_option maxRecDepth 20000 in
theorem ggL_law_X9_setHeading : GoodIn wsL_law wsX9_setHeading := goodIn_r _ [670, 657, 169, 148, 210, 211, 5, 212, 985, 986, 987, 988, 989, 990, 991, 992, 993, 994, 995, 996, 997, 998, 999, 1000, 1001, 1002, 1003, 1004, 1005, 1006, 1007, 1008, 1009, 1010, 1011, 1012, 1013, 1014, 1015, 1016, 1017, 1018, 1019, 1020, 1021, 1022, 1023, 1024, 1025, 1026, 1027] (by decide +kernel) (by decide +kernel)
set_option maxRecDepth 20000 in
theorem gL_law_X9_setHeading : GoodIn wsL_law (wsV RL 83 RX9 yX9_setHeading wsX9_setHeading) := goodIn_app (goodIn_of _ (by decide +kernel)) ggL_law_X9_setHeading
set_option maxRecDepth 20000 in
theorem ggL_law_X8_startCalibration : GoodIn wsL_law wsX8_startCalibration := goodIn_r _ [674, 31, 188, 189, 183, 190, 675, 439, 440, 101, 441, 442, 676, 677, 678, 679, 115, 503, 680, 58, 59, 60, 971, 972, 973, 974, 975, 976, 977, 978, 979, 980, 981, 982, 983, 984, 1051, 1052, 1053, 1054, 1055, 1056, 1057, 1058, 1059, 1060, 1061, 1062, 1067, 1068, 1069] (by decide +kernel) (by decide +kernel)
set_option maxRecDepth 20000 in
theorem gL_law_X8_startCalibration : GoodIn wsL_law (wsV RL 84 RX8 yX8_startCalibration wsX8_startCalibration) := goodIn_app (goodIn_of _ (by decide +kernel)) ggL_law_X8_startCalibration
set_option maxRecDepth 20000 in
theorem ggL_law_X9_startCalibration : GoodIn wsL_law wsX9_startCalibration := goodIn_r _ [684, 205, 170, 171, 147, 210, 211, 5, 212, 985, 986, 987, 988, 989, 990, 991, 992, 993, 994, 995, 996, 997, 998, 999, 1000, 1001, 1002, 1003, 1004, 1005, 1006, 1007, 1008, 1009, 1010, 1011, 1012, 1013, 1014, 1015, 1016, 1017, 1018, 1019, 1020, 1021, 1022, 1023, 1024, 1025, 1026, 1027] (by decide +kernel) (by decide +kernel)
set_option maxRecDepth 20000 in
theorem gL_law_X9_startCalibration : GoodIn wsL_law (wsV RL 87 RX9 yX9_startCalibration wsX9_startCalibration) := goodIn_app (goodIn_of _ (by decide +kernel)) ggL_law_X9_startCalibration
set_option maxRecDepth 20000 in
theorem ggL_law_X8_calibrationLeft : GoodIn wsL_law wsX8_calibrationLeft := goodIn_r _ [688, 31, 971, 972, 973, 974, 975, 976, 977, 978, 979, 980, 981, 982, 983, 984, 1051, 1052, 1053, 1054, 1055, 1056, 1057, 1058, 1059, 1060, 1061, 1062, 1067, 1068, 1069] (by decide +kernel) (by decide +kernel)
set_option maxRecDepth 20000 in
theorem gL_law_X8_calibrationLeft : GoodIn wsL_law (wsV RL 88 RX8 yX8_calibrationLeft wsX8_calibrationLeft) := goodIn_app (goodIn_of _ (by decide +kernel)) ggL_law_X8_calibrationLeft
set_option maxRecDepth 20000 in
theorem ggL_law_X9_calibrationLeft : GoodIn wsL_law wsX9_calibrationLeft := goodIn_r _ [692, 170, 985, 986, 987, 988, 989, 990, 991, 992, 993, 994, 995, 996, 997, 998, 999, 1000, 1001, 1002, 1003, 1004, 1005, 1006, 1007, 1008, 1009, 1010, 1011, 1012, 1013, 1014, 1015, 1016, 1017, 1018, 1019, 1020, 1021, 1022, 1023, 1024, 1025, 1026, 1027] (by decide +kernel) (by decide +kernel)
set_option maxRecDepth 20000 in
theorem gL_law_X9_calibrationLeft : GoodIn wsL_law (wsV RL 91 RX9 yX9_calibrationLeft wsX9_calibrationLeft) := goodIn_app (goodIn_of _ (by decide +kernel)) ggL_law_X9_calibrationLeft
set_option maxRecDepth 20000 in
theorem ggL_law_X8_biasEstimate : GoodIn wsL_law wsX8_biasEstimate := goodIn_r _ [696, 31, 618, 619, 183, 620, 971, 972, 973, 974, 975, 976, 977, 978, 979, 980, 981, 982, 983, 984, 1051, 1052, 1053, 1054, 1055, 1056, 1057, 1058, 1059, 1060, 1061, 1062] (by decide +kernel) (by decide +kernel)
set_option maxRecDepth 20000 in
theorem gL_law_X8_biasEstimate : GoodIn wsL_law (wsV RL 92 RX8 yX8_biasEstimate wsX8_biasEstimate) := goodIn_app (goodIn_of _ (by decide +kernel)) ggL_law_X8_biasEstimate
set_option maxRecDepth 20000 in
theorem ggL_law_X9_biasEstimate : GoodIn wsL_law wsX9_biasEstimate := goodIn_r _ [700, 146, 206, 207, 5, 208, 209, 210, 211, 212, 985, 986, 987, 988, 989, 990, 991, 992, 993, 994, 995, 996, 997, 998, 999, 1000, 1001, 1002, 1003, 1004, 1005, 1006, 1007, 1008, 1009, 1010, 1011, 1012, 1013, 1014, 1015, 1016, 1017, 1018, 1019, 1020, 1021, 1022, 1023, 1024, 1025, 1026, 1027] (by decide +kernel) (by decide +kernel)
set_option maxRecDepth 20000 in
theorem gL_law_X9_biasEstimate : GoodIn wsL_law (wsV RL 95 RX9 yX9_biasEstimate wsX9_biasEstimate) := goodIn_app (goodIn_of _ (by decide +kernel)) ggL_law_X9_biasEstimate
set_option maxRecDepth 20000 in
theorem ggL_law_X8_setCompensation : GoodIn wsL_law wsX8_setCompensation := goodIn_r _ [704, 705, 27, 181, 182, 183, 184, 706, 429, 26, 430, 185, 186, 187, 707, 708, 709, 710, 90, 92, 711, 424, 425, 426, 427, 428, 431, 432, 433, 971, 972, 973, 974, 975, 976, 977, 978, 979, 980, 981, 982, 983, 984, 1048, 1049, 1050] (by decide +kernel) (by decide +kernel)
set_option maxRecDepth 20000 in
theorem gL_law_X8_setCompensation : GoodIn wsL_law (wsV RL 96 RX8 yX8_setCompensation wsX8_setCompensation) := goodIn_app (goodIn_of _ (by decide +kernel)) ggL_law_X8_setCompensation
set_option maxRecDepth 20000 in
theorem ggL_law_X9_setCompensation : GoodIn wsL_law wsX9_setCompensation := goodIn_r _ [715, 716, 539, 206, 207, 5, 208, 209, 210, 211, 212, 717, 718, 719, 720, 721, 722, 723, 724, 725, 151, 150, 726, 727, 728, 729, 985, 986, 987, 988, 989, 990, 991, 992, 993, 994, 995, 996, 997, 998, 999, 1000, 1001, 1002, 1003, 1004, 1005, 1006, 1007, 1008, 1009, 1010, 1011, 1012, 1013, 1014, 1015, 1016, 1017, 1018, 1019, 1020, 1021, 1022, 1023, 1024, 1025, 1026, 1027] (by decide +kernel) (by decide +kernel)
set_option maxRecDepth 20000 in
theorem gL_law_X9_setCompensation : GoodIn wsL_law (wsV RL 99 RX9 yX9_setCompensation wsX9_setCompensation) := goodIn_app (goodIn_of _ (by decide +kernel)) ggL_law_X9_setCompensation
set_option maxRecDepth 20000 in
theorem ggL_law_X8_learnCompensation : GoodIn wsL_law wsX8_learnCompensation := goodIn_r _ [733, 31, 27, 23, 675, 439, 440, 101, 441, 442, 505, 417, 418, 22, 419, 86, 396, 397, 323, 398, 734, 735, 736, 26, 737, 738, 739, 421, 422, 423, 90, 424, 425, 426, 427, 182, 183, 184, 428, 429, 430, 431, 432, 433, 740, 485, 486, 487, 488, 366, 489, 490, 365, 367, 741, 708, 709, 710, 92, 711, 971, 972, 973, 974, 975, 976, 977, 978, 979, 980, 981, 982, 983, 984, 1051, 1052, 1053, 1054, 1055, 1056, 1057, 1058, 1059, 1060, 1061, 1062, 1048, 1049, 1050, 1067, 1068, 1069, 1038, 1039, 1040, 1041, 1042, 1043, 1044, 1045, 1046, 1047] (by decide +kernel) (by decide +kernel)
set_option maxRecDepth 20000 in
theorem gL_law_X8_learnCompensation : GoodIn wsL_law (wsV RL 100 RX8 yX8_learnCompensation wsX8_learnCompensation) := goodIn_app (goodIn_of _ (by decide +kernel)) ggL_law_X8_learnCompensation
set_option maxRecDepth 20000 in
theorem ggL_law_X9_learnCompensation : GoodIn wsL_law wsX9_learnCompensation := goodIn_r _ [745, 170, 146, 539, 568, 569, 570, 5, 571, 163, 540, 345, 346, 347, 572, 573, 574, 575, 151, 150, 591, 592, 593, 722, 723, 724, 725, 726, 727, 728, 729, 985, 986, 987, 988, 989, 990, 991, 992, 993, 994, 995, 996, 997, 998, 999, 1000, 1001, 1002, 1003, 1004, 1005, 1006, 1007, 1008, 1009, 1010, 1011, 1012, 1013, 1014, 1015, 1016, 1017, 1018, 1019, 1020, 1021, 1022, 1023, 1024, 1025, 1026, 1027] (by decide +kernel) (by decide +kernel)
set_option maxRecDepth 20000 in
theorem gL_law_X9_learnCompensation : GoodIn wsL_law (wsV RL 103 RX9 yX9_learnCompensation wsX9_learnCompensation) := goodIn_app (goodIn_of _ (by decide +kernel)) ggL_law_X9_learnCompensation
set_option maxRecDepth 20000 in
theorem ggL_law_X8_compensation : GoodIn wsL_law wsX8_compensation := goodIn_r _ [749, 27, 750, 421, 422, 26, 423, 90, 424, 425, 426, 427, 182, 183, 184, 428, 429, 430, 431, 432, 433, 971, 972, 973, 974, 975, 976, 977, 978, 979, 980, 981, 982, 983, 984, 1048, 1049, 1050] (by decide +kernel) (by decide +kernel)
set_option maxRecDepth 20000 in
theorem gL_law_X8_compensation : GoodIn wsL_law (wsV RL 104 RX8 yX8_compensation wsX8_compensation) := goodIn_app (goodIn_of _ (by decide +kernel)) ggL_law_X8_compensation
set_option maxRecDepth 20000 in
theorem ggL_law_X9_compensation : GoodIn wsL_law wsX9_compensation := goodIn_r _ [754, 206, 207, 5, 208, 209, 210, 211, 212, 717, 718, 719, 720, 721, 572, 573, 574, 575, 151, 150, 985, 986, 987, 988, 989, 990, 991, 992, 993, 994, 995, 996, 997, 998, 999, 1000, 1001, 1002, 1003, 1004, 1005, 1006, 1007, 1008, 1009, 1010, 1011, 1012, 1013, 1014, 1015, 1016, 1017, 1018, 1019, 1020, 1021, 1022, 1023, 1024, 1025, 1026, 1027] (by decide +kernel) (by decide +kernel)
set_option maxRecDepth 20000 in
theorem gL_law_X9_compensation : GoodIn wsL_law (wsV RL 107 RX9 yX9_compensation wsX9_compensation) := goodIn_app (goodIn_of _ (by decide +kernel)) ggL_law_X9_compensation
set_option maxRecDepth 20000 in
theorem ggL_law_X8_forgetBin : GoodIn wsL_law wsX8_forgetBin := goodIn_r _ [758, 27, 759, 760, 761, 26, 762, 711, 92, 90, 424, 425, 426, 427, 182, 183, 184, 428, 429, 430, 431, 432, 433, 971, 972, 973, 974, 975, 976, 977, 978, 979, 980, 981, 982, 983, 984, 1048, 1049, 1050] (by decide +kernel) (by decide +kernel)
set_option maxRecDepth 20000 in
theorem gL_law_X8_forgetBin : GoodIn wsL_law (wsV RL 108 RX8 yX8_forgetBin wsX8_forgetBin) := goodIn_app (goodIn_of _ (by decide +kernel)) ggL_law_X8_forgetBin
set_option maxRecDepth 20000 in
theorem ggL_law_X9_forgetBin : GoodIn wsL_law wsX9_forgetBin := goodIn_r _ [766, 151, 726, 727, 728, 5, 729, 717, 718, 719, 720, 721, 210, 211, 212, 985, 986, 987, 988, 989, 990, 991, 992, 993, 994, 995, 996, 997, 998, 999, 1000, 1001, 1002, 1003, 1004, 1005, 1006, 1007, 1008, 1009, 1010, 1011, 1012, 1013, 1014, 1015, 1016, 1017, 1018, 1019, 1020, 1021, 1022, 1023, 1024, 1025, 1026, 1027] (by decide +kernel) (by decide +kernel)
set_option maxRecDepth 20000 in
theorem gL_law_X9_forgetBin : GoodIn wsL_law (wsV RL 111 RX9 yX9_forgetBin wsX9_forgetBin) := goodIn_app (goodIn_of _ (by decide +kernel)) ggL_law_X9_forgetBin
set_option maxRecDepth 20000 in
theorem ggL_law_X8_turnEstimate : GoodIn wsL_law wsX8_turnEstimate := goodIn_r _ [770, 31, 270, 271, 2, 272, 273, 185, 186, 183, 187, 316, 317, 318, 14, 319, 56, 320, 321, 322, 323, 324, 325, 326, 327, 328, 47, 46, 49, 329, 330, 331, 332, 333, 334, 335, 61, 62, 63, 64, 51, 65, 971, 972, 973, 974, 975, 976, 977, 978, 979, 980, 981, 982, 983, 984, 1051, 1052, 1053, 1054, 1055, 1056, 1057, 1058, 1059, 1060, 1061, 1062, 1028, 1029, 1030, 1031, 1032] (by decide +kernel) (by decide +kernel)
set_option maxRecDepth 20000 in
theorem gL_law_X8_turnEstimate : GoodIn wsL_law (wsV RL 112 RX8 yX8_turnEstimate wsX8_turnEstimate) := goodIn_app (goodIn_of _ (by decide +kernel)) ggL_law_X8_turnEstimate
set_option maxRecDepth 20000 in
theorem ggL_law_X9_turnEstimate : GoodIn wsL_law wsX9_turnEstimate := goodIn_r _ [774, 127, 283, 284, 5, 285, 286, 287, 210, 211, 212, 340, 341, 342, 343, 160, 344, 128, 129, 345, 346, 347, 348, 349, 350, 351, 985, 986, 987, 988, 989, 990, 991, 992, 993, 994, 995, 996, 997, 998, 999, 1000, 1001, 1002, 1003, 1004, 1005, 1006, 1007, 1008, 1009, 1010, 1011, 1012, 1013, 1014, 1015, 1016, 1017, 1018, 1019, 1020, 1021, 1022, 1023, 1024, 1025, 1026, 1027] (by decide +kernel) (by decide +kernel)
set_option maxRecDepth 20000 in
theorem gL_law_X9_turnEstimate : GoodIn wsL_law (wsV RL 115 RX9 yX9_turnEstimate wsX9_turnEstimate) := goodIn_app (goodIn_of _ (by decide +kernel)) ggL_law_X9_turnEstimate
set_option maxRecDepth 20000 in
theorem ggL_law_X8_estimate : GoodIn wsL_law wsX8_estimate := goodIn_r _ [778, 31, 618, 619, 183, 620, 971, 972, 973, 974, 975, 976, 977, 978, 979, 980, 981, 982, 983, 984, 1051, 1052, 1053, 1054, 1055, 1056, 1057, 1058, 1059, 1060, 1061, 1062, 1028, 1029, 1030, 1031, 1032] (by decide +kernel) (by decide +kernel)
set_option maxRecDepth 20000 in
theorem gL_law_X8_estimate : GoodIn wsL_law (wsV RL 116 RX8 yX8_estimate wsX8_estimate) := goodIn_app (goodIn_of _ (by decide +kernel)) ggL_law_X8_estimate
set_option maxRecDepth 20000 in
theorem ggL_law_X9_estimate : GoodIn wsL_law wsX9_estimate := goodIn_r _ [782, 783, 127, 210, 211, 5, 212, 985, 986, 987, 988, 989, 990, 991, 992, 993, 994, 995, 996, 997, 998, 999, 1000, 1001, 1002, 1003, 1004, 1005, 1006, 1007, 1008, 1009, 1010, 1011, 1012, 1013, 1014, 1015, 1016, 1017, 1018, 1019, 1020, 1021, 1022, 1023, 1024, 1025, 1026, 1027] (by decide +kernel) (by decide +kernel)
set_option maxRecDepth 20000 in
theorem gL_law_X9_estimate : GoodIn wsL_law (wsV RL 119 RX9 yX9_estimate wsX9_estimate) := goodIn_app (goodIn_of _ (by decide +kernel)) ggL_law_X9_estimate
set_option maxRecDepth 20000 in
theorem ggL_law_X8_truth : GoodIn wsL_law wsX8_truth := goodIn_r _ [787, 15, 618, 619, 183, 620, 971, 972, 973, 974, 975, 976, 977, 978, 979, 980, 981, 982, 983, 984, 1028, 1029, 1030, 1031, 1032] (by decide +kernel) (by decide +kernel)
set_option maxRecDepth 20000 in
theorem gL_law_X8_truth : GoodIn wsL_law (wsV RL 120 RX8 yX8_truth wsX8_truth) := goodIn_app (goodIn_of _ (by decide +kernel)) ggL_law_X8_truth
set_option maxRecDepth 20000 in
theorem ggL_law_X9_truth : GoodIn wsL_law wsX9_truth := goodIn_r _ [791, 783, 126, 210, 211, 5, 212, 985, 986, 987, 988, 989, 990, 991, 992, 993, 994, 995, 996, 997, 998, 999, 1000, 1001, 1002, 1003, 1004, 1005, 1006, 1007, 1008, 1009, 1010, 1011, 1012, 1013, 1014, 1015, 1016, 1017, 1018, 1019, 1020, 1021, 1022, 1023, 1024, 1025, 1026, 1027] (by decide +kernel) (by decide +kernel)
set_option maxRecDepth 20000 in
theorem gL_law_X9_truth : GoodIn wsL_law (wsV RL 123 RX9 yX9_truth wsX9_truth) := goodIn_app (goodIn_of _ (by decide +kernel)) ggL_law_X9_truth
set_option maxRecDepth 20000 in
theorem ggL_law_X8_errorAngle : GoodIn wsL_law wsX8_errorAngle := goodIn_r _ [510, 31, 15, 511, 512, 513, 14, 514, 48, 46, 49, 65, 329, 330, 331, 515, 516, 183, 517, 518, 519, 520, 971, 972, 973, 974, 975, 976, 977, 978, 979, 980, 981, 982, 983, 984, 1051, 1052, 1053, 1054, 1055, 1056, 1057, 1058, 1059, 1060, 1061, 1062, 1028, 1029, 1030, 1031, 1032] (by decide +kernel) (by decide +kernel)
set_option maxRecDepth 20000 in
theorem gL_law_X8_errorAngle : GoodIn wsL_law (wsV RL 124 RX8 yX8_errorAngle wsX8_errorAngle) := goodIn_app (goodIn_of _ (by decide +kernel)) ggL_law_X8_errorAngle
set_option maxRecDepth 20000 in
theorem ggL_law_X9_errorAngle : GoodIn wsL_law wsX9_errorAngle := goodIn_r _ [796, 126, 127, 598, 599, 600, 5, 601, 133, 209, 129, 348, 349, 350, 351, 602, 603, 604, 605, 985, 986, 987, 988, 989, 990, 991, 992, 993, 994, 995, 996, 997, 998, 999, 1000, 1001, 1002, 1003, 1004, 1005, 1006, 1007, 1008, 1009, 1010, 1011, 1012, 1013, 1014, 1015, 1016, 1017, 1018, 1019, 1020, 1021, 1022, 1023, 1024, 1025, 1026, 1027] (by decide +kernel) (by decide +kernel)
set_option maxRecDepth 20000 in
theorem gL_law_X9_errorAngle : GoodIn wsL_law (wsV RL 128 RX9 yX9_errorAngle wsX9_errorAngle) := goodIn_app (goodIn_of _ (by decide +kernel)) ggL_law_X9_errorAngle
set_option maxRecDepth 20000 in
theorem ggL_law_X8_greatestError : GoodIn wsL_law wsX8_greatestError := goodIn_r _ [800, 363, 971, 972, 973, 974, 975, 976, 977, 978, 979, 980, 981, 982, 983, 984] (by decide +kernel) (by decide +kernel)
set_option maxRecDepth 20000 in
theorem gL_law_X8_greatestError : GoodIn wsL_law (wsV RL 129 RX8 yX8_greatestError wsX8_greatestError) := goodIn_app (goodIn_of _ (by decide +kernel)) ggL_law_X8_greatestError
set_option maxRecDepth 20000 in
theorem ggL_law_X9_greatestError : GoodIn wsL_law wsX9_greatestError := goodIn_r _ [804, 172, 985, 986, 987, 988, 989, 990, 991, 992, 993, 994, 995, 996, 997, 998, 999, 1000, 1001, 1002, 1003, 1004, 1005, 1006, 1007, 1008, 1009, 1010, 1011, 1012, 1013, 1014, 1015, 1016, 1017, 1018, 1019, 1020, 1021, 1022, 1023, 1024, 1025, 1026, 1027] (by decide +kernel) (by decide +kernel)
set_option maxRecDepth 20000 in
theorem gL_law_X9_greatestError : GoodIn wsL_law (wsV RL 132 RX9 yX9_greatestError wsX9_greatestError) := goodIn_app (goodIn_of _ (by decide +kernel)) ggL_law_X9_greatestError
set_option maxRecDepth 20000 in
theorem ggL_law_X8_tiltError : GoodIn wsL_law wsX8_tiltError := goodIn_r _ [808, 15, 809, 39, 31, 40, 41, 810, 387, 388, 14, 389, 390, 391, 392, 393, 51, 394, 182, 183, 184, 811, 456, 457, 812, 516, 517, 518, 519, 520, 971, 972, 973, 974, 975, 976, 977, 978, 979, 980, 981, 982, 983, 984, 1051, 1052, 1053, 1054, 1055, 1056, 1057, 1058, 1059, 1060, 1061, 1062, 1028, 1029, 1030, 1031, 1032] (by decide +kernel) (by decide +kernel)
set_option maxRecDepth 20000 in
theorem gL_law_X8_tiltError : GoodIn wsL_law (wsV RL 133 RX8 yX8_tiltError wsX8_tiltError) := goodIn_app (goodIn_of _ (by decide +kernel)) ggL_law_X8_tiltError
set_option maxRecDepth 20000 in
theorem ggL_law_X9_tiltError : GoodIn wsL_law wsX9_tiltError := goodIn_r _ [816, 126, 145, 131, 127, 132, 558, 559, 560, 5, 561, 562, 545, 546, 547, 548, 130, 549, 550, 551, 552, 160, 209, 576, 577, 578, 579, 602, 603, 604, 605, 985, 986, 987, 988, 989, 990, 991, 992, 993, 994, 995, 996, 997, 998, 999, 1000, 1001, 1002, 1003, 1004, 1005, 1006, 1007, 1008, 1009, 1010, 1011, 1012, 1013, 1014, 1015, 1016, 1017, 1018, 1019, 1020, 1021, 1022, 1023, 1024, 1025, 1026, 1027] (by decide +kernel) (by decide +kernel)
set_option maxRecDepth 20000 in
theorem gL_law_X9_tiltError : GoodIn wsL_law (wsV RL 136 RX9 yX9_tiltError wsX9_tiltError) := goodIn_app (goodIn_of _ (by decide +kernel)) ggL_law_X9_tiltError
set_option maxRecDepth 20000 in
theorem ggL_law_X8_toNavigation : GoodIn wsL_law wsX8_toNavigation := goodIn_r _ [820, 31, 821, 822, 2, 823, 824, 185, 186, 183, 187, 181, 182, 184, 825, 826, 827, 14, 828, 51, 394, 971, 972, 973, 974, 975, 976, 977, 978, 979, 980, 981, 982, 983, 984, 1051, 1052, 1053, 1054, 1055, 1056, 1057, 1058, 1059, 1060, 1061, 1062, 1028, 1029, 1030, 1031, 1032] (by decide +kernel) (by decide +kernel)
set_option maxRecDepth 20000 in
theorem gL_law_X8_toNavigation : GoodIn wsL_law (wsV RL 137 RX8 yX8_toNavigation wsX8_toNavigation) := goodIn_app (goodIn_of _ (by decide +kernel)) ggL_law_X8_toNavigation
set_option maxRecDepth 20000 in
theorem ggL_law_X9_toNavigation : GoodIn wsL_law wsX9_toNavigation := goodIn_r _ [832, 127, 130, 833, 834, 5, 835, 562, 160, 210, 211, 212, 206, 207, 208, 209, 549, 550, 551, 552, 985, 986, 987, 988, 989, 990, 991, 992, 993, 994, 995, 996, 997, 998, 999, 1000, 1001, 1002, 1003, 1004, 1005, 1006, 1007, 1008, 1009, 1010, 1011, 1012, 1013, 1014, 1015, 1016, 1017, 1018, 1019, 1020, 1021, 1022, 1023, 1024, 1025, 1026, 1027] (by decide +kernel) (by decide +kernel)
set_option maxRecDepth 20000 in
theorem gL_law_X9_toNavigation : GoodIn wsL_law (wsV RL 141 RX9 yX9_toNavigation wsX9_toNavigation) := goodIn_app (goodIn_of _ (by decide +kernel)) ggL_law_X9_toNavigation
set_option maxRecDepth 20000 in
theorem ggL_law_X8_toBody : GoodIn wsL_law wsX8_toBody := goodIn_r _ [839, 31, 821, 822, 2, 823, 824, 185, 186, 183, 187, 181, 182, 184, 840, 391, 392, 14, 393, 51, 394, 971, 972, 973, 974, 975, 976, 977, 978, 979, 980, 981, 982, 983, 984, 1051, 1052, 1053, 1054, 1055, 1056, 1057, 1058, 1059, 1060, 1061, 1062, 1028, 1029, 1030, 1031, 1032] (by decide +kernel) (by decide +kernel)
set_option maxRecDepth 20000 in
theorem gL_law_X8_toBody : GoodIn wsL_law (wsV RL 142 RX8 yX8_toBody wsX8_toBody) := goodIn_app (goodIn_of _ (by decide +kernel)) ggL_law_X8_toBody
set_option maxRecDepth 20000 in
theorem ggL_law_X9_toBody : GoodIn wsL_law wsX9_toBody := goodIn_r _ [844, 127, 131, 833, 834, 5, 835, 562, 160, 210, 211, 212, 206, 207, 208, 209, 545, 546, 547, 548, 130, 549, 550, 551, 552, 985, 986, 987, 988, 989, 990, 991, 992, 993, 994, 995, 996, 997, 998, 999, 1000, 1001, 1002, 1003, 1004, 1005, 1006, 1007, 1008, 1009, 1010, 1011, 1012, 1013, 1014, 1015, 1016, 1017, 1018, 1019, 1020, 1021, 1022, 1023, 1024, 1025, 1026, 1027] (by decide +kernel) (by decide +kernel)
set_option maxRecDepth 20000 in
theorem gL_law_X9_toBody : GoodIn wsL_law (wsV RL 145 RX9 yX9_toBody wsX9_toBody) := goodIn_app (goodIn_of _ (by decide +kernel)) ggL_law_X9_toBody
set_option maxRecDepth 20000 in
theorem ggL_law_X8_visitedBins : GoodIn wsL_law wsX8_visitedBins := goodIn_r _ [848, 362, 849, 850, 851, 852, 853, 854, 855, 971, 972, 973, 974, 975, 976, 977, 978, 979, 980, 981, 982, 983, 984] (by decide +kernel) (by decide +kernel)
set_option maxRecDepth 20000 in
theorem gL_law_X8_visitedBins : GoodIn wsL_law (wsV RL 146 RX8 yX8_visitedBins wsX8_visitedBins) := goodIn_app (goodIn_of _ (by decide +kernel)) ggL_law_X8_visitedBins
set_option maxRecDepth 20000 in
theorem ggL_law_X9_visitedBins : GoodIn wsL_law wsX9_visitedBins := goodIn_r _ [859, 152, 985, 986, 987, 988, 989, 990, 991, 992, 993, 994, 995, 996, 997, 998, 999, 1000, 1001, 1002, 1003, 1004, 1005, 1006, 1007, 1008, 1009, 1010, 1011, 1012, 1013, 1014, 1015, 1016, 1017, 1018, 1019, 1020, 1021, 1022, 1023, 1024, 1025, 1026, 1027] (by decide +kernel) (by decide +kernel)
set_option maxRecDepth 20000 in
theorem gL_law_X9_visitedBins : GoodIn wsL_law (wsV RL 149 RX9 yX9_visitedBins wsX9_visitedBins) := goodIn_app (goodIn_of _ (by decide +kernel)) ggL_law_X9_visitedBins
set_option maxRecDepth 20000 in
theorem ggL_law_X8_store : GoodIn wsL_law wsX8_store := goodIn_r _ [863, 35, 31, 188, 189, 183, 190, 864, 865, 866, 34, 867, 868, 119, 120, 869, 378, 379, 380, 870, 871, 872, 873, 971, 972, 973, 974, 975, 976, 977, 978, 979, 980, 981, 982, 983, 984, 1051, 1052, 1053, 1054, 1055, 1056, 1057, 1058, 1059, 1060, 1061, 1062, 1063, 1064, 1065, 1066, 1028, 1029, 1030, 1031, 1032] (by decide +kernel) (by decide +kernel)
set_option maxRecDepth 20000 in
theorem gL_law_X8_store : GoodIn wsL_law (wsV RL 150 RX8 yX8_store wsX8_store) := goodIn_app (goodIn_of _ (by decide +kernel)) ggL_law_X8_store
set_option maxRecDepth 20000 in
theorem ggL_law_X9_store : GoodIn wsL_law wsX9_store := goodIn_r _ [877, 878, 173, 153, 154, 127, 210, 211, 5, 212, 879, 880, 881, 882, 985, 986, 987, 988, 989, 990, 991, 992, 993, 994, 995, 996, 997, 998, 999, 1000, 1001, 1002, 1003, 1004, 1005, 1006, 1007, 1008, 1009, 1010, 1011, 1012, 1013, 1014, 1015, 1016, 1017, 1018, 1019, 1020, 1021, 1022, 1023, 1024, 1025, 1026, 1027] (by decide +kernel) (by decide +kernel)
set_option maxRecDepth 20000 in
theorem gL_law_X9_store : GoodIn wsL_law (wsV RL 153 RX9 yX9_store wsX9_store) := goodIn_app (goodIn_of _ (by decide +kernel)) ggL_law_X9_store
set_option maxRecDepth 20000 in
theorem ggL_law_X8_recall : GoodIn wsL_law wsX8_recall := goodIn_r _ [886, 35, 31, 887, 871, 872, 34, 873, 868, 119, 888, 889, 890, 891, 120, 121, 869, 378, 379, 380, 892, 893, 894, 14, 895, 46, 896, 61, 62, 63, 64, 51, 56, 65, 971, 972, 973, 974, 975, 976, 977, 978, 979, 980, 981, 982, 983, 984, 1051, 1052, 1053, 1054, 1055, 1056, 1057, 1058, 1059, 1060, 1061, 1062, 1063, 1064, 1065, 1066, 1028, 1029, 1030, 1031, 1032] (by decide +kernel) (by decide +kernel)
set_option maxRecDepth 20000 in
theorem gL_law_X8_recall : GoodIn wsL_law (wsV RL 154 RX8 yX8_recall wsX8_recall) := goodIn_app (goodIn_of _ (by decide +kernel)) ggL_law_X8_recall
set_option maxRecDepth 20000 in
theorem ggL_law_X9_recall : GoodIn wsL_law wsX9_recall := goodIn_r _ [900, 127, 154, 879, 880, 881, 5, 882, 173, 153, 985, 986, 987, 988, 989, 990, 991, 992, 993, 994, 995, 996, 997, 998, 999, 1000, 1001, 1002, 1003, 1004, 1005, 1006, 1007, 1008, 1009, 1010, 1011, 1012, 1013, 1014, 1015, 1016, 1017, 1018, 1019, 1020, 1021, 1022, 1023, 1024, 1025, 1026, 1027] (by decide +kernel) (by decide +kernel)
set_option maxRecDepth 20000 in
theorem gL_law_X9_recall : GoodIn wsL_law (wsV RL 157 RX9 yX9_recall wsX9_recall) := goodIn_app (goodIn_of _ (by decide +kernel)) ggL_law_X9_recall
set_option maxRecDepth 20000 in
theorem ggL_law_X8_forget : GoodIn wsL_law wsX8_forget := goodIn_r _ [904, 35, 887, 871, 872, 34, 873, 868, 119, 905, 906, 907, 908, 869, 378, 379, 380, 120, 971, 972, 973, 974, 975, 976, 977, 978, 979, 980, 981, 982, 983, 984, 1063, 1064, 1065, 1066] (by decide +kernel) (by decide +kernel)
set_option maxRecDepth 20000 in
theorem gL_law_X8_forget : GoodIn wsL_law (wsV RL 158 RX8 yX8_forget wsX8_forget) := goodIn_app (goodIn_of _ (by decide +kernel)) ggL_law_X8_forget
set_option maxRecDepth 20000 in
theorem ggL_law_X9_forget : GoodIn wsL_law wsX9_forget := goodIn_r _ [912, 173, 153, 154, 879, 880, 881, 5, 882, 985, 986, 987, 988, 989, 990, 991, 992, 993, 994, 995, 996, 997, 998, 999, 1000, 1001, 1002, 1003, 1004, 1005, 1006, 1007, 1008, 1009, 1010, 1011, 1012, 1013, 1014, 1015, 1016, 1017, 1018, 1019, 1020, 1021, 1022, 1023, 1024, 1025, 1026, 1027] (by decide +kernel) (by decide +kernel)
set_option maxRecDepth 20000 in
theorem gL_law_X9_forget : GoodIn wsL_law (wsV RL 161 RX9 yX9_forget wsX9_forget) := goodIn_app (goodIn_of _ (by decide +kernel)) ggL_law_X9_forget
set_option maxRecDepth 20000 in
theorem ggL_law_X8_angleTo : GoodIn wsL_law wsX8_angleTo := goodIn_r _ [916, 35, 917, 31, 887, 871, 872, 34, 873, 868, 119, 888, 889, 890, 891, 120, 121, 869, 378, 379, 380, 511, 512, 513, 14, 514, 48, 46, 49, 65, 329, 330, 331, 515, 516, 183, 517, 518, 519, 520, 971, 972, 973, 974, 975, 976, 977, 978, 979, 980, 981, 982, 983, 984, 1051, 1052, 1053, 1054, 1055, 1056, 1057, 1058, 1059, 1060, 1061, 1062, 1063, 1064, 1065, 1066, 1028, 1029, 1030, 1031, 1032] (by decide +kernel) (by decide +kernel)
set_option maxRecDepth 20000 in
theorem gL_law_X8_angleTo : GoodIn wsL_law (wsV RL 162 RX8 yX8_angleTo wsX8_angleTo) := goodIn_app (goodIn_of _ (by decide +kernel)) ggL_law_X8_angleTo
set_option maxRecDepth 20000 in
theorem ggL_law_X9_angleTo : GoodIn wsL_law wsX9_angleTo := goodIn_r _ [921, 922, 155, 154, 127, 879, 880, 881, 5, 882, 173, 153, 598, 599, 600, 601, 133, 209, 129, 348, 349, 350, 351, 602, 603, 604, 605, 985, 986, 987, 988, 989, 990, 991, 992, 993, 994, 995, 996, 997, 998, 999, 1000, 1001, 1002, 1003, 1004, 1005, 1006, 1007, 1008, 1009, 1010, 1011, 1012, 1013, 1014, 1015, 1016, 1017, 1018, 1019, 1020, 1021, 1022, 1023, 1024, 1025, 1026, 1027] (by decide +kernel) (by decide +kernel)
set_option maxRecDepth 20000 in
theorem gL_law_X9_angleTo : GoodIn wsL_law (wsV RL 165 RX9 yX9_angleTo wsX9_angleTo) := goodIn_app (goodIn_of _ (by decide +kernel)) ggL_law_X9_angleTo
set_option maxRecDepth 20000 in
theorem ggL_law_X8_storedNumber : GoodIn wsL_law wsX8_storedNumber := goodIn_r _ [926, 35, 927, 928, 929, 34, 930, 868, 119, 971, 972, 973, 974, 975, 976, 977, 978, 979, 980, 981, 982, 983, 984, 1063, 1064, 1065, 1066] (by decide +kernel) (by decide +kernel)
set_option maxRecDepth 20000 in
theorem gL_law_X8_storedNumber : GoodIn wsL_law (wsV RL 166 RX8 yX8_storedNumber wsX8_storedNumber) := goodIn_app (goodIn_of _ (by decide +kernel)) ggL_law_X8_storedNumber
set_option maxRecDepth 20000 in
theorem ggL_law_X9_storedNumber : GoodIn wsL_law wsX9_storedNumber := goodIn_r _ [934, 173, 153, 210, 211, 5, 212, 985, 986, 987, 988, 989, 990, 991, 992, 993, 994, 995, 996, 997, 998, 999, 1000, 1001, 1002, 1003, 1004, 1005, 1006, 1007, 1008, 1009, 1010, 1011, 1012, 1013, 1014, 1015, 1016, 1017, 1018, 1019, 1020, 1021, 1022, 1023, 1024, 1025, 1026, 1027] (by decide +kernel) (by decide +kernel)
set_option maxRecDepth 20000 in
theorem gL_law_X9_storedNumber : GoodIn wsL_law (wsV RL 169 RX9 yX9_storedNumber wsX9_storedNumber) := goodIn_app (goodIn_of _ (by decide +kernel)) ggL_law_X9_storedNumber
set_option maxRecDepth 20000 in
theorem ggL_law_X8_reset : GoodIn wsL_law wsX8_reset := goodIn_r _ [938, 356, 362, 363, 37, 15, 19, 23, 27, 31, 35, 939, 58, 59, 60, 940, 53, 54, 14, 55, 46, 56, 57, 61, 62, 63, 64, 51, 65, 292, 293, 294, 18, 295, 278, 941, 942, 943, 22, 944, 78, 79, 80, 81, 82, 83, 84, 86, 261, 945, 946, 947, 948, 949, 950, 951, 26, 952, 953, 760, 761, 762, 711, 92, 90, 424, 425, 426, 427, 182, 183, 184, 428, 429, 430, 431, 432, 433, 954, 955, 956, 30, 957, 98, 102, 103, 104, 105, 110, 467, 472, 958, 959, 960, 961, 101, 962, 503, 442, 666, 963, 964, 965, 34, 966, 868, 971, 972, 973, 974, 975, 976, 977, 978, 979, 980, 981, 982, 983, 984, 1028, 1029, 1030, 1031, 1032, 1033, 1034, 1035, 1036, 1037, 1038, 1039, 1040, 1041, 1042, 1043, 1044, 1045, 1046, 1047, 1048, 1049, 1050, 1051, 1052, 1053, 1054, 1055, 1056, 1057, 1058, 1059, 1060, 1061, 1062, 1067, 1068, 1069, 1063, 1064, 1065, 1066] (by decide +kernel) (by decide +kernel)
set_option maxRecDepth 20000 in
theorem gL_law_X8_reset : GoodIn wsL_law (wsV RL 170 RX8 yX8_reset wsX8_reset) := goodIn_app (goodIn_of _ (by decide +kernel)) ggL_law_X8_reset
set_option maxRecDepth 20000 in
theorem ggL_law_X9_reset : GoodIn wsL_law wsX9_reset := goodIn_r _ [970, 165, 156, 157, 158, 5, 159, 126, 160, 127, 134, 135, 136, 137, 138, 141, 142, 146, 147, 148, 149, 151, 152, 161, 162, 163, 164, 166, 167, 168, 169, 170, 171, 172, 173, 985, 986, 987, 988, 989, 990, 991, 992, 993, 994, 995, 996, 997, 998, 999, 1000, 1001, 1002, 1003, 1004, 1005, 1006, 1007, 1008, 1009, 1010, 1011, 1012, 1013, 1014, 1015, 1016, 1017, 1018, 1019, 1020, 1021, 1022, 1023, 1024, 1025, 1026, 1027] (by decide +kernel) (by decide +kernel)
set_option maxRecDepth 20000 in
theorem gL_law_X9_reset : GoodIn wsL_law (wsV RL 173 RX9 yX9_reset wsX9_reset) := goodIn_app (goodIn_of _ (by decide +kernel)) ggL_law_X9_reset
set_option maxRecDepth 20000 in
theorem wsL_law_in : ∀ w ∈ wsL_law, w ∈ lw_tbl := fun w h => (goodIn_p wsL_law [54, 57, 62, 69, 72, 77, 102, 125, 166, 184, 192, 249, 801, 806, 310, 313, 317, 321, 326, 941, 944, 948, 331, 336, 958, 340, 964, 345, 349, 970, 353, 357, 976, 361, 364, 369, 980, 983, 373, 377, 989, 381, 385, 993, 389, 393, 397, 401, 404, 408, 997, 1001, 1005, 1009, 412, 417, 541, 421, 426, 433, 437, 441, 447, 451, 456, 462, 466, 470, 474, 477, 481, 484, 488, 492, 497, 502, 506, 509, 516, 521, 525, 531, 535, 538, 545, 549, 553, 560, 564, 567, 570, 1013, 1019, 1023, 1027, 1031, 1035, 1039, 1043, 1050, 1055, 1059, 1063, 1067, 1072, 1076, 1082, 1086, 1090, 1093, 575, 1098, 579, 582, 1102, 586, 1106, 590, 594, 1110, 598, 602, 1114, 606, 610, 1119, 615, 620, 1123, 625, 1127, 629, 1131, 633, 639, 1135, 1138, 1145, 1149, 643, 647, 1153, 655, 1157, 660, 664, 1161, 668, 1165, 672, 1169, 676, 1174, 1178, 681, 1182, 685, 1186, 693, 696, 701, 1190, 1193, 705, 1197, 710, 713, 1201, 720, 724, 728, 1205, 1210, 733, 738, 742, 1214, 747, 751, 1218, 755, 1222, 760, 764, 1227, 768, 774, 777, 782, 787, 792, 796, 1231] (by decide +kernel) (by decide +kernel) w h).1
theorem inlX0 : ∀ w ∈ wsX00, w ∈ wsL_law := fun _ h => List.mem_append_left _ (List.mem_append_left _ (List.mem_append_left _ (List.mem_append_left _ (List.mem_append_left _ (List.mem_append_left _ (List.mem_append_left _ (List.mem_append_right _ h)))))))
theorem inX0 : ∀ w ∈ wsX00, w ∈ lw_tbl := fun w h => wsL_law_in w (inlX0 w h)
theorem inlX1 : ∀ w ∈ wsX10, w ∈ wsL_law := fun _ h => List.mem_append_left _ (List.mem_append_left _ (List.mem_append_right _ h))
theorem inX1 : ∀ w ∈ wsX10, w ∈ lw_tbl := fun w h => wsL_law_in w (inlX1 w h)
theorem inlX2 : ∀ w ∈ wsX20, w ∈ wsL_law := fun _ h => List.mem_append_left _ (List.mem_append_right _ h)
theorem inX2 : ∀ w ∈ wsX20, w ∈ lw_tbl := fun w h => wsL_law_in w (inlX2 w h)
theorem inlX3 : ∀ w ∈ wsX30, w ∈ wsL_law := fun _ h => List.mem_append_left _ (List.mem_append_left _ (List.mem_append_left _ (List.mem_append_left _ (List.mem_append_right _ h))))
theorem inX3 : ∀ w ∈ wsX30, w ∈ lw_tbl := fun w h => wsL_law_in w (inlX3 w h)
theorem inlX4 : ∀ w ∈ wsX40, w ∈ wsL_law := fun _ h => List.mem_append_left _ (List.mem_append_left _ (List.mem_append_left _ (List.mem_append_right _ h)))
theorem inX4 : ∀ w ∈ wsX40, w ∈ lw_tbl := fun w h => wsL_law_in w (inlX4 w h)
theorem inX5 : ∀ w ∈ wsX50, w ∈ lw_tbl := by decide +kernel
theorem inlX6 : ∀ w ∈ wsX60, w ∈ wsL_law := fun _ h => List.mem_append_left _ (List.mem_append_left _ (List.mem_append_left _ (List.mem_append_left _ (List.mem_append_left _ (List.mem_append_left _ (List.mem_append_right _ h))))))
theorem inX6 : ∀ w ∈ wsX60, w ∈ lw_tbl := fun w h => wsL_law_in w (inlX6 w h)
theorem inlX7 : ∀ w ∈ wsX70, w ∈ wsL_law := fun _ h => List.mem_append_left _ (List.mem_append_left _ (List.mem_append_left _ (List.mem_append_left _ (List.mem_append_left _ (List.mem_append_right _ h)))))
theorem inX7 : ∀ w ∈ wsX70, w ∈ lw_tbl := fun w h => wsL_law_in w (inlX7 w h)
theorem inlX8 : ∀ w ∈ wsX80, w ∈ wsL_law := fun _ h => List.mem_append_left _ (List.mem_append_left _ (List.mem_append_left _ (List.mem_append_left _ (List.mem_append_left _ (List.mem_append_left _ (List.mem_append_left _ (List.mem_append_left _ (List.mem_append_left _ (List.mem_append_right _ h)))))))))
theorem inX8 : ∀ w ∈ wsX80, w ∈ lw_tbl := fun w h => wsL_law_in w (inlX8 w h)
theorem inlX9 : ∀ w ∈ wsX90, w ∈ wsL_law := fun _ h => List.mem_append_left _ (List.mem_append_left _ (List.mem_append_left _ (List.mem_append_left _ (List.mem_append_left _ (List.mem_append_left _ (List.mem_append_left _ (List.mem_append_left _ (List.mem_append_right _ h))))))))
theorem inX9 : ∀ w ∈ wsX90, w ∈ lw_tbl := fun w h => wsL_law_in w (inlX9 w h)
theorem inJ6 : ∀ w ∈ wsJ60, w ∈ lw_tbl := by decide +kernel
theorem inJ9 : ∀ w ∈ wsJ90, w ∈ lw_tbl := by decide +kernel
theorem inJ10 : ∀ w ∈ wsJ100, w ∈ lw_tbl := by decide +kernel
theorem inJ7 : ∀ w ∈ wsJ70, w ∈ lw_tbl := by decide +kernel
