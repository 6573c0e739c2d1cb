theorem dL_law_0 : decode cL_law 0 = Except.ok (Instr.new 7, 3) := by decide +kernel
theorem dL_law_3 : decode cL_law 3 = Except.ok (Instr.dup, 1) := by decide +kernel
theorem dL_law_4 : decode cL_law 4 = Except.ok (Instr.invokespecial 9, 3) := by decide +kernel
theorem dL_law_7 : decode cL_law 7 = Except.ok (Instr.astore_n 1, 1) := by decide +kernel
theorem dL_law_8 : decode cL_law 8 = Except.ok (Instr.new 10, 3) := by decide +kernel
theorem dL_law_11 : decode cL_law 11 = Except.ok (Instr.dup, 1) := by decide +kernel
theorem dL_law_12 : decode cL_law 12 = Except.ok (Instr.invokespecial 12, 3) := by decide +kernel
theorem dL_law_15 : decode cL_law 15 = Except.ok (Instr.astore_n 2, 1) := by decide +kernel
theorem dL_law_16 : decode cL_law 16 = Except.ok (Instr.iconst 0, 1) := by decide +kernel
theorem dL_law_17 : decode cL_law 17 = Except.ok (Instr.istore_n 3, 1) := by decide +kernel
theorem dL_law_18 : decode cL_law 18 = Except.ok (Instr.iload_n 3, 1) := by decide +kernel
theorem dL_law_19 : decode cL_law 19 = Except.ok (Instr.aload_n 0, 1) := by decide +kernel
theorem dL_law_20 : decode cL_law 20 = Except.ok (Instr.arraylength, 1) := by decide +kernel
theorem dL_law_21 : decode cL_law 21 = Except.ok (Instr.bipush 6, 2) := by decide +kernel
theorem dL_law_23 : decode cL_law 23 = Except.ok (Instr.isub, 1) := by decide +kernel
theorem dL_law_24 : decode cL_law 24 = Except.ok (Instr.if_icmp .gt 1187, 3) := by decide +kernel
theorem dL_law_27 : decode cL_law 27 = Except.ok (Instr.aload_n 0, 1) := by decide +kernel
theorem dL_law_28 : decode cL_law 28 = Except.ok (Instr.iload_n 3, 1) := by decide +kernel
theorem dL_law_29 : decode cL_law 29 = Except.ok (Instr.iaload, 1) := by decide +kernel
theorem dL_law_30 : decode cL_law 30 = Except.ok (Instr.bipush 63, 2) := by decide +kernel
theorem dL_law_32 : decode cL_law 32 = Except.ok (Instr.iand, 1) := by decide +kernel
theorem dL_law_33 : decode cL_law 33 = Except.ok (Instr.tableswitch 1172 0 37 #[167, 230, 263, 296, 319, 342, 395, 408, 421, 464, 487, 500, 524, 548, 571, 594, 617, 640, 653, 677, 720, 733, 766, 789, 832, 856, 880, 894, 908, 922, 976, 1030, 1043, 1066, 1089, 1112, 1136, 1159], 167) := by decide +kernel
theorem dL_law_200 : decode cL_law 200 = Except.ok (Instr.aload_n 1, 1) := by decide +kernel
theorem dL_law_201 : decode cL_law 201 = Except.ok (Instr.aload_n 0, 1) := by decide +kernel
theorem dL_law_202 : decode cL_law 202 = Except.ok (Instr.iload_n 3, 1) := by decide +kernel
theorem dL_law_203 : decode cL_law 203 = Except.ok (Instr.iconst 1, 1) := by decide +kernel
theorem dL_law_204 : decode cL_law 204 = Except.ok (Instr.iadd, 1) := by decide +kernel
theorem dL_law_205 : decode cL_law 205 = Except.ok (Instr.iaload, 1) := by decide +kernel
theorem dL_law_206 : decode cL_law 206 = Except.ok (Instr.aload_n 0, 1) := by decide +kernel
theorem dL_law_207 : decode cL_law 207 = Except.ok (Instr.iload_n 3, 1) := by decide +kernel
theorem dL_law_208 : decode cL_law 208 = Except.ok (Instr.iconst 2, 1) := by decide +kernel
theorem dL_law_209 : decode cL_law 209 = Except.ok (Instr.iadd, 1) := by decide +kernel
theorem dL_law_210 : decode cL_law 210 = Except.ok (Instr.iaload, 1) := by decide +kernel
theorem dL_law_211 : decode cL_law 211 = Except.ok (Instr.aload_n 0, 1) := by decide +kernel
theorem dL_law_212 : decode cL_law 212 = Except.ok (Instr.iload_n 3, 1) := by decide +kernel
theorem dL_law_213 : decode cL_law 213 = Except.ok (Instr.iconst 3, 1) := by decide +kernel
theorem dL_law_214 : decode cL_law 214 = Except.ok (Instr.iadd, 1) := by decide +kernel
theorem dL_law_215 : decode cL_law 215 = Except.ok (Instr.iaload, 1) := by decide +kernel
theorem dL_law_216 : decode cL_law 216 = Except.ok (Instr.aload_n 0, 1) := by decide +kernel
theorem dL_law_217 : decode cL_law 217 = Except.ok (Instr.iload_n 3, 1) := by decide +kernel
theorem dL_law_218 : decode cL_law 218 = Except.ok (Instr.iconst 4, 1) := by decide +kernel
theorem dL_law_219 : decode cL_law 219 = Except.ok (Instr.iadd, 1) := by decide +kernel
theorem dL_law_220 : decode cL_law 220 = Except.ok (Instr.iaload, 1) := by decide +kernel
theorem dL_law_221 : decode cL_law 221 = Except.ok (Instr.aload_n 0, 1) := by decide +kernel
theorem dL_law_222 : decode cL_law 222 = Except.ok (Instr.iload_n 3, 1) := by decide +kernel
theorem dL_law_223 : decode cL_law 223 = Except.ok (Instr.iconst 5, 1) := by decide +kernel
theorem dL_law_224 : decode cL_law 224 = Except.ok (Instr.iadd, 1) := by decide +kernel
theorem dL_law_225 : decode cL_law 225 = Except.ok (Instr.iaload, 1) := by decide +kernel
theorem dL_law_226 : decode cL_law 226 = Except.ok (Instr.invokevirtual 13, 3) := by decide +kernel
theorem dL_law_229 : decode cL_law 229 = Except.ok (Instr.aload_n 2, 1) := by decide +kernel
theorem dL_law_230 : decode cL_law 230 = Except.ok (Instr.aload_n 0, 1) := by decide +kernel
theorem dL_law_231 : decode cL_law 231 = Except.ok (Instr.iload_n 3, 1) := by decide +kernel
theorem dL_law_232 : decode cL_law 232 = Except.ok (Instr.iconst 1, 1) := by decide +kernel
theorem dL_law_233 : decode cL_law 233 = Except.ok (Instr.iadd, 1) := by decide +kernel
theorem dL_law_234 : decode cL_law 234 = Except.ok (Instr.iaload, 1) := by decide +kernel
theorem dL_law_235 : decode cL_law 235 = Except.ok (Instr.aload_n 0, 1) := by decide +kernel
theorem dL_law_236 : decode cL_law 236 = Except.ok (Instr.iload_n 3, 1) := by decide +kernel
theorem dL_law_237 : decode cL_law 237 = Except.ok (Instr.iconst 2, 1) := by decide +kernel
theorem dL_law_238 : decode cL_law 238 = Except.ok (Instr.iadd, 1) := by decide +kernel
theorem dL_law_239 : decode cL_law 239 = Except.ok (Instr.iaload, 1) := by decide +kernel
theorem dL_law_240 : decode cL_law 240 = Except.ok (Instr.aload_n 0, 1) := by decide +kernel
theorem dL_law_241 : decode cL_law 241 = Except.ok (Instr.iload_n 3, 1) := by decide +kernel
theorem dL_law_242 : decode cL_law 242 = Except.ok (Instr.iconst 3, 1) := by decide +kernel
theorem dL_law_243 : decode cL_law 243 = Except.ok (Instr.iadd, 1) := by decide +kernel
theorem dL_law_244 : decode cL_law 244 = Except.ok (Instr.iaload, 1) := by decide +kernel
theorem dL_law_245 : decode cL_law 245 = Except.ok (Instr.aload_n 0, 1) := by decide +kernel
theorem dL_law_246 : decode cL_law 246 = Except.ok (Instr.iload_n 3, 1) := by decide +kernel
theorem dL_law_247 : decode cL_law 247 = Except.ok (Instr.iconst 4, 1) := by decide +kernel
theorem dL_law_248 : decode cL_law 248 = Except.ok (Instr.iadd, 1) := by decide +kernel
theorem dL_law_249 : decode cL_law 249 = Except.ok (Instr.iaload, 1) := by decide +kernel
theorem dL_law_250 : decode cL_law 250 = Except.ok (Instr.aload_n 0, 1) := by decide +kernel
theorem dL_law_251 : decode cL_law 251 = Except.ok (Instr.iload_n 3, 1) := by decide +kernel
theorem dL_law_252 : decode cL_law 252 = Except.ok (Instr.iconst 5, 1) := by decide +kernel
theorem dL_law_253 : decode cL_law 253 = Except.ok (Instr.iadd, 1) := by decide +kernel
theorem dL_law_254 : decode cL_law 254 = Except.ok (Instr.iaload, 1) := by decide +kernel
theorem dL_law_255 : decode cL_law 255 = Except.ok (Instr.invokevirtual 17, 3) := by decide +kernel
theorem dL_law_258 : decode cL_law 258 = Except.ok (Instr.if_icmp .eq 947, 3) := by decide +kernel
theorem dL_law_261 : decode cL_law 261 = Except.ok (Instr.iconst 0, 1) := by decide +kernel
theorem dL_law_262 : decode cL_law 262 = Except.ok (Instr.ireturn, 1) := by decide +kernel
theorem dL_law_263 : decode cL_law 263 = Except.ok (Instr.aload_n 1, 1) := by decide +kernel
theorem dL_law_264 : decode cL_law 264 = Except.ok (Instr.aload_n 0, 1) := by decide +kernel
theorem dL_law_265 : decode cL_law 265 = Except.ok (Instr.iload_n 3, 1) := by decide +kernel
theorem dL_law_266 : decode cL_law 266 = Except.ok (Instr.iconst 1, 1) := by decide +kernel
theorem dL_law_267 : decode cL_law 267 = Except.ok (Instr.iadd, 1) := by decide +kernel
theorem dL_law_268 : decode cL_law 268 = Except.ok (Instr.iaload, 1) := by decide +kernel
theorem dL_law_269 : decode cL_law 269 = Except.ok (Instr.aload_n 0, 1) := by decide +kernel
theorem dL_law_270 : decode cL_law 270 = Except.ok (Instr.iload_n 3, 1) := by decide +kernel
theorem dL_law_271 : decode cL_law 271 = Except.ok (Instr.iconst 2, 1) := by decide +kernel
theorem dL_law_272 : decode cL_law 272 = Except.ok (Instr.iadd, 1) := by decide +kernel
theorem dL_law_273 : decode cL_law 273 = Except.ok (Instr.iaload, 1) := by decide +kernel
theorem dL_law_274 : decode cL_law 274 = Except.ok (Instr.invokevirtual 18, 3) := by decide +kernel
theorem dL_law_277 : decode cL_law 277 = Except.ok (Instr.aload_n 2, 1) := by decide +kernel
theorem dL_law_278 : decode cL_law 278 = Except.ok (Instr.aload_n 0, 1) := by decide +kernel
theorem dL_law_279 : decode cL_law 279 = Except.ok (Instr.iload_n 3, 1) := by decide +kernel
theorem dL_law_280 : decode cL_law 280 = Except.ok (Instr.iconst 1, 1) := by decide +kernel
theorem dL_law_281 : decode cL_law 281 = Except.ok (Instr.iadd, 1) := by decide +kernel
theorem dL_law_282 : decode cL_law 282 = Except.ok (Instr.iaload, 1) := by decide +kernel
theorem dL_law_283 : decode cL_law 283 = Except.ok (Instr.aload_n 0, 1) := by decide +kernel
theorem dL_law_284 : decode cL_law 284 = Except.ok (Instr.iload_n 3, 1) := by decide +kernel
theorem dL_law_285 : decode cL_law 285 = Except.ok (Instr.iconst 2, 1) := by decide +kernel
theorem dL_law_286 : decode cL_law 286 = Except.ok (Instr.iadd, 1) := by decide +kernel
theorem dL_law_287 : decode cL_law 287 = Except.ok (Instr.iaload, 1) := by decide +kernel
theorem dL_law_288 : decode cL_law 288 = Except.ok (Instr.invokevirtual 22, 3) := by decide +kernel
theorem dL_law_291 : decode cL_law 291 = Except.ok (Instr.if_icmp .eq 914, 3) := by decide +kernel
theorem dL_law_294 : decode cL_law 294 = Except.ok (Instr.iconst 0, 1) := by decide +kernel
theorem dL_law_295 : decode cL_law 295 = Except.ok (Instr.ireturn, 1) := by decide +kernel
theorem dL_law_296 : decode cL_law 296 = Except.ok (Instr.aload_n 1, 1) := by decide +kernel
theorem dL_law_297 : decode cL_law 297 = Except.ok (Instr.aload_n 0, 1) := by decide +kernel
theorem dL_law_298 : decode cL_law 298 = Except.ok (Instr.iload_n 3, 1) := by decide +kernel
theorem dL_law_299 : decode cL_law 299 = Except.ok (Instr.iconst 1, 1) := by decide +kernel
theorem dL_law_300 : decode cL_law 300 = Except.ok (Instr.iadd, 1) := by decide +kernel
theorem dL_law_301 : decode cL_law 301 = Except.ok (Instr.iaload, 1) := by decide +kernel
theorem dL_law_302 : decode cL_law 302 = Except.ok (Instr.aload_n 0, 1) := by decide +kernel
theorem dL_law_303 : decode cL_law 303 = Except.ok (Instr.iload_n 3, 1) := by decide +kernel
theorem dL_law_304 : decode cL_law 304 = Except.ok (Instr.iconst 2, 1) := by decide +kernel
theorem dL_law_305 : decode cL_law 305 = Except.ok (Instr.iadd, 1) := by decide +kernel
theorem dL_law_306 : decode cL_law 306 = Except.ok (Instr.iaload, 1) := by decide +kernel
theorem dL_law_307 : decode cL_law 307 = Except.ok (Instr.invokevirtual 23, 3) := by decide +kernel
theorem dL_law_310 : decode cL_law 310 = Except.ok (Instr.aload_n 2, 1) := by decide +kernel
theorem dL_law_311 : decode cL_law 311 = Except.ok (Instr.aload_n 0, 1) := by decide +kernel
theorem dL_law_312 : decode cL_law 312 = Except.ok (Instr.iload_n 3, 1) := by decide +kernel
theorem dL_law_313 : decode cL_law 313 = Except.ok (Instr.iconst 1, 1) := by decide +kernel
theorem dL_law_314 : decode cL_law 314 = Except.ok (Instr.iadd, 1) := by decide +kernel
theorem dL_law_315 : decode cL_law 315 = Except.ok (Instr.iaload, 1) := by decide +kernel
theorem dL_law_316 : decode cL_law 316 = Except.ok (Instr.aload_n 0, 1) := by decide +kernel
theorem dL_law_317 : decode cL_law 317 = Except.ok (Instr.iload_n 3, 1) := by decide +kernel
theorem dL_law_318 : decode cL_law 318 = Except.ok (Instr.iconst 2, 1) := by decide +kernel
theorem dL_law_319 : decode cL_law 319 = Except.ok (Instr.iadd, 1) := by decide +kernel
theorem dL_law_320 : decode cL_law 320 = Except.ok (Instr.iaload, 1) := by decide +kernel
theorem dL_law_321 : decode cL_law 321 = Except.ok (Instr.invokevirtual 26, 3) := by decide +kernel
theorem dL_law_324 : decode cL_law 324 = Except.ok (Instr.if_icmp .eq 881, 3) := by decide +kernel
theorem dL_law_327 : decode cL_law 327 = Except.ok (Instr.iconst 0, 1) := by decide +kernel
theorem dL_law_328 : decode cL_law 328 = Except.ok (Instr.ireturn, 1) := by decide +kernel
theorem dL_law_329 : decode cL_law 329 = Except.ok (Instr.aload_n 1, 1) := by decide +kernel
theorem dL_law_330 : decode cL_law 330 = Except.ok (Instr.aload_n 0, 1) := by decide +kernel
theorem dL_law_331 : decode cL_law 331 = Except.ok (Instr.iload_n 3, 1) := by decide +kernel
theorem dL_law_332 : decode cL_law 332 = Except.ok (Instr.iconst 1, 1) := by decide +kernel
theorem dL_law_333 : decode cL_law 333 = Except.ok (Instr.iadd, 1) := by decide +kernel
theorem dL_law_334 : decode cL_law 334 = Except.ok (Instr.iaload, 1) := by decide +kernel
theorem dL_law_335 : decode cL_law 335 = Except.ok (Instr.invokevirtual 27, 3) := by decide +kernel
theorem dL_law_338 : decode cL_law 338 = Except.ok (Instr.aload_n 2, 1) := by decide +kernel
theorem dL_law_339 : decode cL_law 339 = Except.ok (Instr.aload_n 0, 1) := by decide +kernel
theorem dL_law_340 : decode cL_law 340 = Except.ok (Instr.iload_n 3, 1) := by decide +kernel
theorem dL_law_341 : decode cL_law 341 = Except.ok (Instr.iconst 1, 1) := by decide +kernel
theorem dL_law_342 : decode cL_law 342 = Except.ok (Instr.iadd, 1) := by decide +kernel
theorem dL_law_343 : decode cL_law 343 = Except.ok (Instr.iaload, 1) := by decide +kernel
theorem dL_law_344 : decode cL_law 344 = Except.ok (Instr.invokevirtual 31, 3) := by decide +kernel
theorem dL_law_347 : decode cL_law 347 = Except.ok (Instr.if_icmp .eq 858, 3) := by decide +kernel
theorem dL_law_350 : decode cL_law 350 = Except.ok (Instr.iconst 0, 1) := by decide +kernel
theorem dL_law_351 : decode cL_law 351 = Except.ok (Instr.ireturn, 1) := by decide +kernel
theorem dL_law_352 : decode cL_law 352 = Except.ok (Instr.aload_n 1, 1) := by decide +kernel
theorem dL_law_353 : decode cL_law 353 = Except.ok (Instr.aload_n 0, 1) := by decide +kernel
theorem dL_law_354 : decode cL_law 354 = Except.ok (Instr.iload_n 3, 1) := by decide +kernel
theorem dL_law_355 : decode cL_law 355 = Except.ok (Instr.iconst 1, 1) := by decide +kernel
theorem dL_law_356 : decode cL_law 356 = Except.ok (Instr.iadd, 1) := by decide +kernel
theorem dL_law_357 : decode cL_law 357 = Except.ok (Instr.iaload, 1) := by decide +kernel
theorem dL_law_358 : decode cL_law 358 = Except.ok (Instr.invokevirtual 32, 3) := by decide +kernel
theorem dL_law_361 : decode cL_law 361 = Except.ok (Instr.aload_n 2, 1) := by decide +kernel
theorem dL_law_362 : decode cL_law 362 = Except.ok (Instr.aload_n 0, 1) := by decide +kernel
theorem dL_law_363 : decode cL_law 363 = Except.ok (Instr.iload_n 3, 1) := by decide +kernel
theorem dL_law_364 : decode cL_law 364 = Except.ok (Instr.iconst 1, 1) := by decide +kernel
theorem dL_law_365 : decode cL_law 365 = Except.ok (Instr.iadd, 1) := by decide +kernel
theorem dL_law_366 : decode cL_law 366 = Except.ok (Instr.iaload, 1) := by decide +kernel
theorem dL_law_367 : decode cL_law 367 = Except.ok (Instr.invokevirtual 35, 3) := by decide +kernel
theorem dL_law_370 : decode cL_law 370 = Except.ok (Instr.if_icmp .eq 835, 3) := by decide +kernel
theorem dL_law_373 : decode cL_law 373 = Except.ok (Instr.iconst 0, 1) := by decide +kernel
theorem dL_law_374 : decode cL_law 374 = Except.ok (Instr.ireturn, 1) := by decide +kernel
theorem dL_law_375 : decode cL_law 375 = Except.ok (Instr.aload_n 1, 1) := by decide +kernel
theorem dL_law_376 : decode cL_law 376 = Except.ok (Instr.aload_n 0, 1) := by decide +kernel
theorem dL_law_377 : decode cL_law 377 = Except.ok (Instr.iload_n 3, 1) := by decide +kernel
theorem dL_law_378 : decode cL_law 378 = Except.ok (Instr.iconst 1, 1) := by decide +kernel
theorem dL_law_379 : decode cL_law 379 = Except.ok (Instr.iadd, 1) := by decide +kernel
theorem dL_law_380 : decode cL_law 380 = Except.ok (Instr.iaload, 1) := by decide +kernel
theorem dL_law_381 : decode cL_law 381 = Except.ok (Instr.aload_n 0, 1) := by decide +kernel
theorem dL_law_382 : decode cL_law 382 = Except.ok (Instr.iload_n 3, 1) := by decide +kernel
theorem dL_law_383 : decode cL_law 383 = Except.ok (Instr.iconst 2, 1) := by decide +kernel
theorem dL_law_384 : decode cL_law 384 = Except.ok (Instr.iadd, 1) := by decide +kernel
theorem dL_law_385 : decode cL_law 385 = Except.ok (Instr.iaload, 1) := by decide +kernel
theorem dL_law_386 : decode cL_law 386 = Except.ok (Instr.aload_n 0, 1) := by decide +kernel
theorem dL_law_387 : decode cL_law 387 = Except.ok (Instr.iload_n 3, 1) := by decide +kernel
theorem dL_law_388 : decode cL_law 388 = Except.ok (Instr.iconst 3, 1) := by decide +kernel
theorem dL_law_389 : decode cL_law 389 = Except.ok (Instr.iadd, 1) := by decide +kernel
theorem dL_law_390 : decode cL_law 390 = Except.ok (Instr.iaload, 1) := by decide +kernel
theorem dL_law_391 : decode cL_law 391 = Except.ok (Instr.aload_n 0, 1) := by decide +kernel
theorem dL_law_392 : decode cL_law 392 = Except.ok (Instr.iload_n 3, 1) := by decide +kernel
theorem dL_law_393 : decode cL_law 393 = Except.ok (Instr.iconst 4, 1) := by decide +kernel
theorem dL_law_394 : decode cL_law 394 = Except.ok (Instr.iadd, 1) := by decide +kernel
theorem dL_law_395 : decode cL_law 395 = Except.ok (Instr.iaload, 1) := by decide +kernel
theorem dL_law_396 : decode cL_law 396 = Except.ok (Instr.invokevirtual 36, 3) := by decide +kernel
theorem dL_law_399 : decode cL_law 399 = Except.ok (Instr.aload_n 2, 1) := by decide +kernel
theorem dL_law_400 : decode cL_law 400 = Except.ok (Instr.aload_n 0, 1) := by decide +kernel
theorem dL_law_401 : decode cL_law 401 = Except.ok (Instr.iload_n 3, 1) := by decide +kernel
theorem dL_law_402 : decode cL_law 402 = Except.ok (Instr.iconst 1, 1) := by decide +kernel
theorem dL_law_403 : decode cL_law 403 = Except.ok (Instr.iadd, 1) := by decide +kernel
theorem dL_law_404 : decode cL_law 404 = Except.ok (Instr.iaload, 1) := by decide +kernel
theorem dL_law_405 : decode cL_law 405 = Except.ok (Instr.aload_n 0, 1) := by decide +kernel
theorem dL_law_406 : decode cL_law 406 = Except.ok (Instr.iload_n 3, 1) := by decide +kernel
theorem dL_law_407 : decode cL_law 407 = Except.ok (Instr.iconst 2, 1) := by decide +kernel
theorem dL_law_408 : decode cL_law 408 = Except.ok (Instr.iadd, 1) := by decide +kernel
theorem dL_law_409 : decode cL_law 409 = Except.ok (Instr.iaload, 1) := by decide +kernel
theorem dL_law_410 : decode cL_law 410 = Except.ok (Instr.aload_n 0, 1) := by decide +kernel
theorem dL_law_411 : decode cL_law 411 = Except.ok (Instr.iload_n 3, 1) := by decide +kernel
theorem dL_law_412 : decode cL_law 412 = Except.ok (Instr.iconst 3, 1) := by decide +kernel
theorem dL_law_413 : decode cL_law 413 = Except.ok (Instr.iadd, 1) := by decide +kernel
theorem dL_law_414 : decode cL_law 414 = Except.ok (Instr.iaload, 1) := by decide +kernel
theorem dL_law_415 : decode cL_law 415 = Except.ok (Instr.aload_n 0, 1) := by decide +kernel
theorem dL_law_416 : decode cL_law 416 = Except.ok (Instr.iload_n 3, 1) := by decide +kernel
theorem dL_law_417 : decode cL_law 417 = Except.ok (Instr.iconst 4, 1) := by decide +kernel
theorem dL_law_418 : decode cL_law 418 = Except.ok (Instr.iadd, 1) := by decide +kernel
theorem dL_law_419 : decode cL_law 419 = Except.ok (Instr.iaload, 1) := by decide +kernel
theorem dL_law_420 : decode cL_law 420 = Except.ok (Instr.invokevirtual 40, 3) := by decide +kernel
theorem dL_law_423 : decode cL_law 423 = Except.ok (Instr.if_icmp .eq 782, 3) := by decide +kernel
theorem dL_law_426 : decode cL_law 426 = Except.ok (Instr.iconst 0, 1) := by decide +kernel
theorem dL_law_427 : decode cL_law 427 = Except.ok (Instr.ireturn, 1) := by decide +kernel
theorem dL_law_428 : decode cL_law 428 = Except.ok (Instr.aload_n 1, 1) := by decide +kernel
theorem dL_law_429 : decode cL_law 429 = Except.ok (Instr.invokevirtual 41, 3) := by decide +kernel
theorem dL_law_432 : decode cL_law 432 = Except.ok (Instr.aload_n 2, 1) := by decide +kernel
theorem dL_law_433 : decode cL_law 433 = Except.ok (Instr.invokevirtual 45, 3) := by decide +kernel
theorem dL_law_436 : decode cL_law 436 = Except.ok (Instr.if_icmp .eq 769, 3) := by decide +kernel
theorem dL_law_439 : decode cL_law 439 = Except.ok (Instr.iconst 0, 1) := by decide +kernel
theorem dL_law_440 : decode cL_law 440 = Except.ok (Instr.ireturn, 1) := by decide +kernel
theorem dL_law_441 : decode cL_law 441 = Except.ok (Instr.aload_n 1, 1) := by decide +kernel
theorem dL_law_442 : decode cL_law 442 = Except.ok (Instr.invokevirtual 46, 3) := by decide +kernel
theorem dL_law_445 : decode cL_law 445 = Except.ok (Instr.aload_n 2, 1) := by decide +kernel
theorem dL_law_446 : decode cL_law 446 = Except.ok (Instr.invokevirtual 49, 3) := by decide +kernel
theorem dL_law_449 : decode cL_law 449 = Except.ok (Instr.if_icmp .eq 756, 3) := by decide +kernel
theorem dL_law_452 : decode cL_law 452 = Except.ok (Instr.iconst 0, 1) := by decide +kernel
theorem dL_law_453 : decode cL_law 453 = Except.ok (Instr.ireturn, 1) := by decide +kernel
theorem dL_law_454 : decode cL_law 454 = Except.ok (Instr.aload_n 1, 1) := by decide +kernel
theorem dL_law_455 : decode cL_law 455 = Except.ok (Instr.aload_n 0, 1) := by decide +kernel
theorem dL_law_456 : decode cL_law 456 = Except.ok (Instr.iload_n 3, 1) := by decide +kernel
theorem dL_law_457 : decode cL_law 457 = Except.ok (Instr.iconst 1, 1) := by decide +kernel
theorem dL_law_458 : decode cL_law 458 = Except.ok (Instr.iadd, 1) := by decide +kernel
theorem dL_law_459 : decode cL_law 459 = Except.ok (Instr.iaload, 1) := by decide +kernel
theorem dL_law_460 : decode cL_law 460 = Except.ok (Instr.aload_n 0, 1) := by decide +kernel
theorem dL_law_461 : decode cL_law 461 = Except.ok (Instr.iload_n 3, 1) := by decide +kernel
theorem dL_law_462 : decode cL_law 462 = Except.ok (Instr.iconst 2, 1) := by decide +kernel
theorem dL_law_463 : decode cL_law 463 = Except.ok (Instr.iadd, 1) := by decide +kernel
theorem dL_law_464 : decode cL_law 464 = Except.ok (Instr.iaload, 1) := by decide +kernel
theorem dL_law_465 : decode cL_law 465 = Except.ok (Instr.aload_n 0, 1) := by decide +kernel
theorem dL_law_466 : decode cL_law 466 = Except.ok (Instr.iload_n 3, 1) := by decide +kernel
theorem dL_law_467 : decode cL_law 467 = Except.ok (Instr.iconst 3, 1) := by decide +kernel
theorem dL_law_468 : decode cL_law 468 = Except.ok (Instr.iadd, 1) := by decide +kernel
theorem dL_law_469 : decode cL_law 469 = Except.ok (Instr.iaload, 1) := by decide +kernel
theorem dL_law_470 : decode cL_law 470 = Except.ok (Instr.invokevirtual 50, 3) := by decide +kernel
theorem dL_law_473 : decode cL_law 473 = Except.ok (Instr.aload_n 2, 1) := by decide +kernel
theorem dL_law_474 : decode cL_law 474 = Except.ok (Instr.aload_n 0, 1) := by decide +kernel
theorem dL_law_475 : decode cL_law 475 = Except.ok (Instr.iload_n 3, 1) := by decide +kernel
theorem dL_law_476 : decode cL_law 476 = Except.ok (Instr.iconst 1, 1) := by decide +kernel
theorem dL_law_477 : decode cL_law 477 = Except.ok (Instr.iadd, 1) := by decide +kernel
theorem dL_law_478 : decode cL_law 478 = Except.ok (Instr.iaload, 1) := by decide +kernel
theorem dL_law_479 : decode cL_law 479 = Except.ok (Instr.aload_n 0, 1) := by decide +kernel
theorem dL_law_480 : decode cL_law 480 = Except.ok (Instr.iload_n 3, 1) := by decide +kernel
theorem dL_law_481 : decode cL_law 481 = Except.ok (Instr.iconst 2, 1) := by decide +kernel
theorem dL_law_482 : decode cL_law 482 = Except.ok (Instr.iadd, 1) := by decide +kernel
theorem dL_law_483 : decode cL_law 483 = Except.ok (Instr.iaload, 1) := by decide +kernel
theorem dL_law_484 : decode cL_law 484 = Except.ok (Instr.aload_n 0, 1) := by decide +kernel
theorem dL_law_485 : decode cL_law 485 = Except.ok (Instr.iload_n 3, 1) := by decide +kernel
theorem dL_law_486 : decode cL_law 486 = Except.ok (Instr.iconst 3, 1) := by decide +kernel
theorem dL_law_487 : decode cL_law 487 = Except.ok (Instr.iadd, 1) := by decide +kernel
theorem dL_law_488 : decode cL_law 488 = Except.ok (Instr.iaload, 1) := by decide +kernel
theorem dL_law_489 : decode cL_law 489 = Except.ok (Instr.invokevirtual 54, 3) := by decide +kernel
theorem dL_law_492 : decode cL_law 492 = Except.ok (Instr.if_icmp .eq 713, 3) := by decide +kernel
theorem dL_law_495 : decode cL_law 495 = Except.ok (Instr.iconst 0, 1) := by decide +kernel
theorem dL_law_496 : decode cL_law 496 = Except.ok (Instr.ireturn, 1) := by decide +kernel
theorem dL_law_497 : decode cL_law 497 = Except.ok (Instr.aload_n 1, 1) := by decide +kernel
theorem dL_law_498 : decode cL_law 498 = Except.ok (Instr.aload_n 0, 1) := by decide +kernel
theorem dL_law_499 : decode cL_law 499 = Except.ok (Instr.iload_n 3, 1) := by decide +kernel
theorem dL_law_500 : decode cL_law 500 = Except.ok (Instr.iconst 1, 1) := by decide +kernel
theorem dL_law_501 : decode cL_law 501 = Except.ok (Instr.iadd, 1) := by decide +kernel
theorem dL_law_502 : decode cL_law 502 = Except.ok (Instr.iaload, 1) := by decide +kernel
theorem dL_law_503 : decode cL_law 503 = Except.ok (Instr.invokevirtual 55, 3) := by decide +kernel
theorem dL_law_506 : decode cL_law 506 = Except.ok (Instr.aload_n 2, 1) := by decide +kernel
theorem dL_law_507 : decode cL_law 507 = Except.ok (Instr.aload_n 0, 1) := by decide +kernel
theorem dL_law_508 : decode cL_law 508 = Except.ok (Instr.iload_n 3, 1) := by decide +kernel
theorem dL_law_509 : decode cL_law 509 = Except.ok (Instr.iconst 1, 1) := by decide +kernel
theorem dL_law_510 : decode cL_law 510 = Except.ok (Instr.iadd, 1) := by decide +kernel
theorem dL_law_511 : decode cL_law 511 = Except.ok (Instr.iaload, 1) := by decide +kernel
theorem dL_law_512 : decode cL_law 512 = Except.ok (Instr.invokevirtual 58, 3) := by decide +kernel
theorem dL_law_515 : decode cL_law 515 = Except.ok (Instr.if_icmp .eq 690, 3) := by decide +kernel
theorem dL_law_518 : decode cL_law 518 = Except.ok (Instr.iconst 0, 1) := by decide +kernel
theorem dL_law_519 : decode cL_law 519 = Except.ok (Instr.ireturn, 1) := by decide +kernel
theorem dL_law_520 : decode cL_law 520 = Except.ok (Instr.aload_n 1, 1) := by decide +kernel
theorem dL_law_521 : decode cL_law 521 = Except.ok (Instr.invokevirtual 59, 3) := by decide +kernel
theorem dL_law_524 : decode cL_law 524 = Except.ok (Instr.aload_n 2, 1) := by decide +kernel
theorem dL_law_525 : decode cL_law 525 = Except.ok (Instr.invokevirtual 62, 3) := by decide +kernel
theorem dL_law_528 : decode cL_law 528 = Except.ok (Instr.if_icmp .eq 677, 3) := by decide +kernel
theorem dL_law_531 : decode cL_law 531 = Except.ok (Instr.iconst 0, 1) := by decide +kernel
theorem dL_law_532 : decode cL_law 532 = Except.ok (Instr.ireturn, 1) := by decide +kernel
theorem dL_law_533 : decode cL_law 533 = Except.ok (Instr.aload_n 1, 1) := by decide +kernel
theorem dL_law_534 : decode cL_law 534 = Except.ok (Instr.aload_n 0, 1) := by decide +kernel
theorem dL_law_535 : decode cL_law 535 = Except.ok (Instr.iload_n 3, 1) := by decide +kernel
theorem dL_law_536 : decode cL_law 536 = Except.ok (Instr.iconst 1, 1) := by decide +kernel
theorem dL_law_537 : decode cL_law 537 = Except.ok (Instr.iadd, 1) := by decide +kernel
theorem dL_law_538 : decode cL_law 538 = Except.ok (Instr.iaload, 1) := by decide +kernel
theorem dL_law_539 : decode cL_law 539 = Except.ok (Instr.invokevirtual 63, 3) := by decide +kernel
theorem dL_law_542 : decode cL_law 542 = Except.ok (Instr.aload_n 2, 1) := by decide +kernel
theorem dL_law_543 : decode cL_law 543 = Except.ok (Instr.aload_n 0, 1) := by decide +kernel
theorem dL_law_544 : decode cL_law 544 = Except.ok (Instr.iload_n 3, 1) := by decide +kernel
theorem dL_law_545 : decode cL_law 545 = Except.ok (Instr.iconst 1, 1) := by decide +kernel
theorem dL_law_546 : decode cL_law 546 = Except.ok (Instr.iadd, 1) := by decide +kernel
theorem dL_law_547 : decode cL_law 547 = Except.ok (Instr.iaload, 1) := by decide +kernel
theorem dL_law_548 : decode cL_law 548 = Except.ok (Instr.invokevirtual 67, 3) := by decide +kernel
theorem dL_law_551 : decode cL_law 551 = Except.ok (Instr.lcmp, 1) := by decide +kernel
theorem dL_law_552 : decode cL_law 552 = Except.ok (Instr.ifCond .eq 653, 3) := by decide +kernel
theorem dL_law_555 : decode cL_law 555 = Except.ok (Instr.iconst 0, 1) := by decide +kernel
theorem dL_law_556 : decode cL_law 556 = Except.ok (Instr.ireturn, 1) := by decide +kernel
theorem dL_law_557 : decode cL_law 557 = Except.ok (Instr.aload_n 1, 1) := by decide +kernel
theorem dL_law_558 : decode cL_law 558 = Except.ok (Instr.aload_n 0, 1) := by decide +kernel
theorem dL_law_559 : decode cL_law 559 = Except.ok (Instr.iload_n 3, 1) := by decide +kernel
theorem dL_law_560 : decode cL_law 560 = Except.ok (Instr.iconst 1, 1) := by decide +kernel
theorem dL_law_561 : decode cL_law 561 = Except.ok (Instr.iadd, 1) := by decide +kernel
theorem dL_law_562 : decode cL_law 562 = Except.ok (Instr.iaload, 1) := by decide +kernel
theorem dL_law_563 : decode cL_law 563 = Except.ok (Instr.invokevirtual 68, 3) := by decide +kernel
theorem dL_law_566 : decode cL_law 566 = Except.ok (Instr.aload_n 2, 1) := by decide +kernel
theorem dL_law_567 : decode cL_law 567 = Except.ok (Instr.aload_n 0, 1) := by decide +kernel
theorem dL_law_568 : decode cL_law 568 = Except.ok (Instr.iload_n 3, 1) := by decide +kernel
theorem dL_law_569 : decode cL_law 569 = Except.ok (Instr.iconst 1, 1) := by decide +kernel
theorem dL_law_570 : decode cL_law 570 = Except.ok (Instr.iadd, 1) := by decide +kernel
theorem dL_law_571 : decode cL_law 571 = Except.ok (Instr.iaload, 1) := by decide +kernel
theorem dL_law_572 : decode cL_law 572 = Except.ok (Instr.invokevirtual 71, 3) := by decide +kernel
theorem dL_law_575 : decode cL_law 575 = Except.ok (Instr.lcmp, 1) := by decide +kernel
theorem dL_law_576 : decode cL_law 576 = Except.ok (Instr.ifCond .eq 629, 3) := by decide +kernel
theorem dL_law_579 : decode cL_law 579 = Except.ok (Instr.iconst 0, 1) := by decide +kernel
theorem dL_law_580 : decode cL_law 580 = Except.ok (Instr.ireturn, 1) := by decide +kernel
theorem dL_law_581 : decode cL_law 581 = Except.ok (Instr.aload_n 1, 1) := by decide +kernel
theorem dL_law_582 : decode cL_law 582 = Except.ok (Instr.aload_n 0, 1) := by decide +kernel
theorem dL_law_583 : decode cL_law 583 = Except.ok (Instr.iload_n 3, 1) := by decide +kernel
theorem dL_law_584 : decode cL_law 584 = Except.ok (Instr.iconst 1, 1) := by decide +kernel
theorem dL_law_585 : decode cL_law 585 = Except.ok (Instr.iadd, 1) := by decide +kernel
theorem dL_law_586 : decode cL_law 586 = Except.ok (Instr.iaload, 1) := by decide +kernel
theorem dL_law_587 : decode cL_law 587 = Except.ok (Instr.invokevirtual 72, 3) := by decide +kernel
theorem dL_law_590 : decode cL_law 590 = Except.ok (Instr.aload_n 2, 1) := by decide +kernel
theorem dL_law_591 : decode cL_law 591 = Except.ok (Instr.aload_n 0, 1) := by decide +kernel
theorem dL_law_592 : decode cL_law 592 = Except.ok (Instr.iload_n 3, 1) := by decide +kernel
theorem dL_law_593 : decode cL_law 593 = Except.ok (Instr.iconst 1, 1) := by decide +kernel
theorem dL_law_594 : decode cL_law 594 = Except.ok (Instr.iadd, 1) := by decide +kernel
theorem dL_law_595 : decode cL_law 595 = Except.ok (Instr.iaload, 1) := by decide +kernel
theorem dL_law_596 : decode cL_law 596 = Except.ok (Instr.invokevirtual 75, 3) := by decide +kernel
theorem dL_law_599 : decode cL_law 599 = Except.ok (Instr.if_icmp .eq 606, 3) := by decide +kernel
theorem dL_law_602 : decode cL_law 602 = Except.ok (Instr.iconst 0, 1) := by decide +kernel
theorem dL_law_603 : decode cL_law 603 = Except.ok (Instr.ireturn, 1) := by decide +kernel
theorem dL_law_604 : decode cL_law 604 = Except.ok (Instr.aload_n 1, 1) := by decide +kernel
theorem dL_law_605 : decode cL_law 605 = Except.ok (Instr.aload_n 0, 1) := by decide +kernel
theorem dL_law_606 : decode cL_law 606 = Except.ok (Instr.iload_n 3, 1) := by decide +kernel
theorem dL_law_607 : decode cL_law 607 = Except.ok (Instr.iconst 1, 1) := by decide +kernel
theorem dL_law_608 : decode cL_law 608 = Except.ok (Instr.iadd, 1) := by decide +kernel
theorem dL_law_609 : decode cL_law 609 = Except.ok (Instr.iaload, 1) := by decide +kernel
theorem dL_law_610 : decode cL_law 610 = Except.ok (Instr.invokevirtual 76, 3) := by decide +kernel
theorem dL_law_613 : decode cL_law 613 = Except.ok (Instr.aload_n 2, 1) := by decide +kernel
theorem dL_law_614 : decode cL_law 614 = Except.ok (Instr.aload_n 0, 1) := by decide +kernel
theorem dL_law_615 : decode cL_law 615 = Except.ok (Instr.iload_n 3, 1) := by decide +kernel
theorem dL_law_616 : decode cL_law 616 = Except.ok (Instr.iconst 1, 1) := by decide +kernel
theorem dL_law_617 : decode cL_law 617 = Except.ok (Instr.iadd, 1) := by decide +kernel
theorem dL_law_618 : decode cL_law 618 = Except.ok (Instr.iaload, 1) := by decide +kernel
theorem dL_law_619 : decode cL_law 619 = Except.ok (Instr.invokevirtual 79, 3) := by decide +kernel
theorem dL_law_622 : decode cL_law 622 = Except.ok (Instr.if_icmp .eq 583, 3) := by decide +kernel
theorem dL_law_625 : decode cL_law 625 = Except.ok (Instr.iconst 0, 1) := by decide +kernel
theorem dL_law_626 : decode cL_law 626 = Except.ok (Instr.ireturn, 1) := by decide +kernel
theorem dL_law_627 : decode cL_law 627 = Except.ok (Instr.aload_n 1, 1) := by decide +kernel
theorem dL_law_628 : decode cL_law 628 = Except.ok (Instr.aload_n 0, 1) := by decide +kernel
theorem dL_law_629 : decode cL_law 629 = Except.ok (Instr.iload_n 3, 1) := by decide +kernel
theorem dL_law_630 : decode cL_law 630 = Except.ok (Instr.iconst 1, 1) := by decide +kernel
theorem dL_law_631 : decode cL_law 631 = Except.ok (Instr.iadd, 1) := by decide +kernel
theorem dL_law_632 : decode cL_law 632 = Except.ok (Instr.iaload, 1) := by decide +kernel
theorem dL_law_633 : decode cL_law 633 = Except.ok (Instr.invokevirtual 80, 3) := by decide +kernel
theorem dL_law_636 : decode cL_law 636 = Except.ok (Instr.aload_n 2, 1) := by decide +kernel
theorem dL_law_637 : decode cL_law 637 = Except.ok (Instr.aload_n 0, 1) := by decide +kernel
theorem dL_law_638 : decode cL_law 638 = Except.ok (Instr.iload_n 3, 1) := by decide +kernel
theorem dL_law_639 : decode cL_law 639 = Except.ok (Instr.iconst 1, 1) := by decide +kernel
theorem dL_law_640 : decode cL_law 640 = Except.ok (Instr.iadd, 1) := by decide +kernel
theorem dL_law_641 : decode cL_law 641 = Except.ok (Instr.iaload, 1) := by decide +kernel
theorem dL_law_642 : decode cL_law 642 = Except.ok (Instr.invokevirtual 83, 3) := by decide +kernel
theorem dL_law_645 : decode cL_law 645 = Except.ok (Instr.if_icmp .eq 560, 3) := by decide +kernel
theorem dL_law_648 : decode cL_law 648 = Except.ok (Instr.iconst 0, 1) := by decide +kernel
theorem dL_law_649 : decode cL_law 649 = Except.ok (Instr.ireturn, 1) := by decide +kernel
theorem dL_law_650 : decode cL_law 650 = Except.ok (Instr.aload_n 1, 1) := by decide +kernel
theorem dL_law_651 : decode cL_law 651 = Except.ok (Instr.aload_n 0, 1) := by decide +kernel
theorem dL_law_652 : decode cL_law 652 = Except.ok (Instr.iload_n 3, 1) := by decide +kernel
theorem dL_law_653 : decode cL_law 653 = Except.ok (Instr.iconst 1, 1) := by decide +kernel
theorem dL_law_654 : decode cL_law 654 = Except.ok (Instr.iadd, 1) := by decide +kernel
theorem dL_law_655 : decode cL_law 655 = Except.ok (Instr.iaload, 1) := by decide +kernel
theorem dL_law_656 : decode cL_law 656 = Except.ok (Instr.invokevirtual 84, 3) := by decide +kernel
theorem dL_law_659 : decode cL_law 659 = Except.ok (Instr.aload_n 2, 1) := by decide +kernel
theorem dL_law_660 : decode cL_law 660 = Except.ok (Instr.aload_n 0, 1) := by decide +kernel
theorem dL_law_661 : decode cL_law 661 = Except.ok (Instr.iload_n 3, 1) := by decide +kernel
theorem dL_law_662 : decode cL_law 662 = Except.ok (Instr.iconst 1, 1) := by decide +kernel
theorem dL_law_663 : decode cL_law 663 = Except.ok (Instr.iadd, 1) := by decide +kernel
theorem dL_law_664 : decode cL_law 664 = Except.ok (Instr.iaload, 1) := by decide +kernel
theorem dL_law_665 : decode cL_law 665 = Except.ok (Instr.invokevirtual 87, 3) := by decide +kernel
theorem dL_law_668 : decode cL_law 668 = Except.ok (Instr.if_icmp .eq 537, 3) := by decide +kernel
theorem dL_law_671 : decode cL_law 671 = Except.ok (Instr.iconst 0, 1) := by decide +kernel
theorem dL_law_672 : decode cL_law 672 = Except.ok (Instr.ireturn, 1) := by decide +kernel
theorem dL_law_673 : decode cL_law 673 = Except.ok (Instr.aload_n 1, 1) := by decide +kernel
theorem dL_law_674 : decode cL_law 674 = Except.ok (Instr.invokevirtual 88, 3) := by decide +kernel
theorem dL_law_677 : decode cL_law 677 = Except.ok (Instr.aload_n 2, 1) := by decide +kernel
theorem dL_law_678 : decode cL_law 678 = Except.ok (Instr.invokevirtual 91, 3) := by decide +kernel
theorem dL_law_681 : decode cL_law 681 = Except.ok (Instr.if_icmp .eq 524, 3) := by decide +kernel
theorem dL_law_684 : decode cL_law 684 = Except.ok (Instr.iconst 0, 1) := by decide +kernel
theorem dL_law_685 : decode cL_law 685 = Except.ok (Instr.ireturn, 1) := by decide +kernel
theorem dL_law_686 : decode cL_law 686 = Except.ok (Instr.aload_n 1, 1) := by decide +kernel
theorem dL_law_687 : decode cL_law 687 = Except.ok (Instr.aload_n 0, 1) := by decide +kernel
theorem dL_law_688 : decode cL_law 688 = Except.ok (Instr.iload_n 3, 1) := by decide +kernel
theorem dL_law_689 : decode cL_law 689 = Except.ok (Instr.iconst 1, 1) := by decide +kernel
theorem dL_law_690 : decode cL_law 690 = Except.ok (Instr.iadd, 1) := by decide +kernel
theorem dL_law_691 : decode cL_law 691 = Except.ok (Instr.iaload, 1) := by decide +kernel
theorem dL_law_692 : decode cL_law 692 = Except.ok (Instr.invokevirtual 92, 3) := by decide +kernel
theorem dL_law_695 : decode cL_law 695 = Except.ok (Instr.aload_n 2, 1) := by decide +kernel
theorem dL_law_696 : decode cL_law 696 = Except.ok (Instr.aload_n 0, 1) := by decide +kernel
theorem dL_law_697 : decode cL_law 697 = Except.ok (Instr.iload_n 3, 1) := by decide +kernel
theorem dL_law_698 : decode cL_law 698 = Except.ok (Instr.iconst 1, 1) := by decide +kernel
theorem dL_law_699 : decode cL_law 699 = Except.ok (Instr.iadd, 1) := by decide +kernel
theorem dL_law_700 : decode cL_law 700 = Except.ok (Instr.iaload, 1) := by decide +kernel
theorem dL_law_701 : decode cL_law 701 = Except.ok (Instr.invokevirtual 95, 3) := by decide +kernel
theorem dL_law_704 : decode cL_law 704 = Except.ok (Instr.lcmp, 1) := by decide +kernel
theorem dL_law_705 : decode cL_law 705 = Except.ok (Instr.ifCond .eq 500, 3) := by decide +kernel
theorem dL_law_708 : decode cL_law 708 = Except.ok (Instr.iconst 0, 1) := by decide +kernel
theorem dL_law_709 : decode cL_law 709 = Except.ok (Instr.ireturn, 1) := by decide +kernel
theorem dL_law_710 : decode cL_law 710 = Except.ok (Instr.aload_n 1, 1) := by decide +kernel
theorem dL_law_711 : decode cL_law 711 = Except.ok (Instr.aload_n 0, 1) := by decide +kernel
theorem dL_law_712 : decode cL_law 712 = Except.ok (Instr.iload_n 3, 1) := by decide +kernel
theorem dL_law_713 : decode cL_law 713 = Except.ok (Instr.iconst 1, 1) := by decide +kernel
theorem dL_law_714 : decode cL_law 714 = Except.ok (Instr.iadd, 1) := by decide +kernel
theorem dL_law_715 : decode cL_law 715 = Except.ok (Instr.iaload, 1) := by decide +kernel
theorem dL_law_716 : decode cL_law 716 = Except.ok (Instr.aload_n 0, 1) := by decide +kernel
theorem dL_law_717 : decode cL_law 717 = Except.ok (Instr.iload_n 3, 1) := by decide +kernel
theorem dL_law_718 : decode cL_law 718 = Except.ok (Instr.iconst 2, 1) := by decide +kernel
theorem dL_law_719 : decode cL_law 719 = Except.ok (Instr.iadd, 1) := by decide +kernel
theorem dL_law_720 : decode cL_law 720 = Except.ok (Instr.iaload, 1) := by decide +kernel
theorem dL_law_721 : decode cL_law 721 = Except.ok (Instr.aload_n 0, 1) := by decide +kernel
theorem dL_law_722 : decode cL_law 722 = Except.ok (Instr.iload_n 3, 1) := by decide +kernel
theorem dL_law_723 : decode cL_law 723 = Except.ok (Instr.iconst 3, 1) := by decide +kernel
theorem dL_law_724 : decode cL_law 724 = Except.ok (Instr.iadd, 1) := by decide +kernel
theorem dL_law_725 : decode cL_law 725 = Except.ok (Instr.iaload, 1) := by decide +kernel
theorem dL_law_726 : decode cL_law 726 = Except.ok (Instr.invokevirtual 96, 3) := by decide +kernel
theorem dL_law_729 : decode cL_law 729 = Except.ok (Instr.aload_n 2, 1) := by decide +kernel
theorem dL_law_730 : decode cL_law 730 = Except.ok (Instr.aload_n 0, 1) := by decide +kernel
theorem dL_law_731 : decode cL_law 731 = Except.ok (Instr.iload_n 3, 1) := by decide +kernel
theorem dL_law_732 : decode cL_law 732 = Except.ok (Instr.iconst 1, 1) := by decide +kernel
theorem dL_law_733 : decode cL_law 733 = Except.ok (Instr.iadd, 1) := by decide +kernel
theorem dL_law_734 : decode cL_law 734 = Except.ok (Instr.iaload, 1) := by decide +kernel
theorem dL_law_735 : decode cL_law 735 = Except.ok (Instr.aload_n 0, 1) := by decide +kernel
theorem dL_law_736 : decode cL_law 736 = Except.ok (Instr.iload_n 3, 1) := by decide +kernel
theorem dL_law_737 : decode cL_law 737 = Except.ok (Instr.iconst 2, 1) := by decide +kernel
theorem dL_law_738 : decode cL_law 738 = Except.ok (Instr.iadd, 1) := by decide +kernel
theorem dL_law_739 : decode cL_law 739 = Except.ok (Instr.iaload, 1) := by decide +kernel
theorem dL_law_740 : decode cL_law 740 = Except.ok (Instr.aload_n 0, 1) := by decide +kernel
theorem dL_law_741 : decode cL_law 741 = Except.ok (Instr.iload_n 3, 1) := by decide +kernel
theorem dL_law_742 : decode cL_law 742 = Except.ok (Instr.iconst 3, 1) := by decide +kernel
theorem dL_law_743 : decode cL_law 743 = Except.ok (Instr.iadd, 1) := by decide +kernel
theorem dL_law_744 : decode cL_law 744 = Except.ok (Instr.iaload, 1) := by decide +kernel
theorem dL_law_745 : decode cL_law 745 = Except.ok (Instr.invokevirtual 99, 3) := by decide +kernel
theorem dL_law_748 : decode cL_law 748 = Except.ok (Instr.if_icmp .eq 457, 3) := by decide +kernel
theorem dL_law_751 : decode cL_law 751 = Except.ok (Instr.iconst 0, 1) := by decide +kernel
theorem dL_law_752 : decode cL_law 752 = Except.ok (Instr.ireturn, 1) := by decide +kernel
theorem dL_law_753 : decode cL_law 753 = Except.ok (Instr.aload_n 1, 1) := by decide +kernel
theorem dL_law_754 : decode cL_law 754 = Except.ok (Instr.invokevirtual 100, 3) := by decide +kernel
theorem dL_law_757 : decode cL_law 757 = Except.ok (Instr.aload_n 2, 1) := by decide +kernel
theorem dL_law_758 : decode cL_law 758 = Except.ok (Instr.invokevirtual 103, 3) := by decide +kernel
theorem dL_law_761 : decode cL_law 761 = Except.ok (Instr.if_icmp .eq 444, 3) := by decide +kernel
theorem dL_law_764 : decode cL_law 764 = Except.ok (Instr.iconst 0, 1) := by decide +kernel
theorem dL_law_765 : decode cL_law 765 = Except.ok (Instr.ireturn, 1) := by decide +kernel
theorem dL_law_766 : decode cL_law 766 = Except.ok (Instr.aload_n 1, 1) := by decide +kernel
theorem dL_law_767 : decode cL_law 767 = Except.ok (Instr.aload_n 0, 1) := by decide +kernel
theorem dL_law_768 : decode cL_law 768 = Except.ok (Instr.iload_n 3, 1) := by decide +kernel
theorem dL_law_769 : decode cL_law 769 = Except.ok (Instr.iconst 1, 1) := by decide +kernel
theorem dL_law_770 : decode cL_law 770 = Except.ok (Instr.iadd, 1) := by decide +kernel
theorem dL_law_771 : decode cL_law 771 = Except.ok (Instr.iaload, 1) := by decide +kernel
theorem dL_law_772 : decode cL_law 772 = Except.ok (Instr.aload_n 0, 1) := by decide +kernel
theorem dL_law_773 : decode cL_law 773 = Except.ok (Instr.iload_n 3, 1) := by decide +kernel
theorem dL_law_774 : decode cL_law 774 = Except.ok (Instr.iconst 2, 1) := by decide +kernel
theorem dL_law_775 : decode cL_law 775 = Except.ok (Instr.iadd, 1) := by decide +kernel
theorem dL_law_776 : decode cL_law 776 = Except.ok (Instr.iaload, 1) := by decide +kernel
theorem dL_law_777 : decode cL_law 777 = Except.ok (Instr.invokevirtual 104, 3) := by decide +kernel
theorem dL_law_780 : decode cL_law 780 = Except.ok (Instr.aload_n 2, 1) := by decide +kernel
theorem dL_law_781 : decode cL_law 781 = Except.ok (Instr.aload_n 0, 1) := by decide +kernel
theorem dL_law_782 : decode cL_law 782 = Except.ok (Instr.iload_n 3, 1) := by decide +kernel
theorem dL_law_783 : decode cL_law 783 = Except.ok (Instr.iconst 1, 1) := by decide +kernel
theorem dL_law_784 : decode cL_law 784 = Except.ok (Instr.iadd, 1) := by decide +kernel
theorem dL_law_785 : decode cL_law 785 = Except.ok (Instr.iaload, 1) := by decide +kernel
theorem dL_law_786 : decode cL_law 786 = Except.ok (Instr.aload_n 0, 1) := by decide +kernel
theorem dL_law_787 : decode cL_law 787 = Except.ok (Instr.iload_n 3, 1) := by decide +kernel
theorem dL_law_788 : decode cL_law 788 = Except.ok (Instr.iconst 2, 1) := by decide +kernel
theorem dL_law_789 : decode cL_law 789 = Except.ok (Instr.iadd, 1) := by decide +kernel
theorem dL_law_790 : decode cL_law 790 = Except.ok (Instr.iaload, 1) := by decide +kernel
theorem dL_law_791 : decode cL_law 791 = Except.ok (Instr.invokevirtual 107, 3) := by decide +kernel
theorem dL_law_794 : decode cL_law 794 = Except.ok (Instr.if_icmp .eq 411, 3) := by decide +kernel
theorem dL_law_797 : decode cL_law 797 = Except.ok (Instr.iconst 0, 1) := by decide +kernel
theorem dL_law_798 : decode cL_law 798 = Except.ok (Instr.ireturn, 1) := by decide +kernel
theorem dL_law_799 : decode cL_law 799 = Except.ok (Instr.aload_n 1, 1) := by decide +kernel
theorem dL_law_800 : decode cL_law 800 = Except.ok (Instr.aload_n 0, 1) := by decide +kernel
theorem dL_law_801 : decode cL_law 801 = Except.ok (Instr.iload_n 3, 1) := by decide +kernel
theorem dL_law_802 : decode cL_law 802 = Except.ok (Instr.iconst 1, 1) := by decide +kernel
theorem dL_law_803 : decode cL_law 803 = Except.ok (Instr.iadd, 1) := by decide +kernel
theorem dL_law_804 : decode cL_law 804 = Except.ok (Instr.iaload, 1) := by decide +kernel
theorem dL_law_805 : decode cL_law 805 = Except.ok (Instr.invokevirtual 108, 3) := by decide +kernel
theorem dL_law_808 : decode cL_law 808 = Except.ok (Instr.aload_n 2, 1) := by decide +kernel
theorem dL_law_809 : decode cL_law 809 = Except.ok (Instr.aload_n 0, 1) := by decide +kernel
theorem dL_law_810 : decode cL_law 810 = Except.ok (Instr.iload_n 3, 1) := by decide +kernel
theorem dL_law_811 : decode cL_law 811 = Except.ok (Instr.iconst 1, 1) := by decide +kernel
theorem dL_law_812 : decode cL_law 812 = Except.ok (Instr.iadd, 1) := by decide +kernel
theorem dL_law_813 : decode cL_law 813 = Except.ok (Instr.iaload, 1) := by decide +kernel
theorem dL_law_814 : decode cL_law 814 = Except.ok (Instr.invokevirtual 111, 3) := by decide +kernel
theorem dL_law_817 : decode cL_law 817 = Except.ok (Instr.if_icmp .eq 388, 3) := by decide +kernel
theorem dL_law_820 : decode cL_law 820 = Except.ok (Instr.iconst 0, 1) := by decide +kernel
theorem dL_law_821 : decode cL_law 821 = Except.ok (Instr.ireturn, 1) := by decide +kernel
theorem dL_law_822 : decode cL_law 822 = Except.ok (Instr.aload_n 1, 1) := by decide +kernel
theorem dL_law_823 : decode cL_law 823 = Except.ok (Instr.aload_n 0, 1) := by decide +kernel
theorem dL_law_824 : decode cL_law 824 = Except.ok (Instr.iload_n 3, 1) := by decide +kernel
theorem dL_law_825 : decode cL_law 825 = Except.ok (Instr.iconst 1, 1) := by decide +kernel
theorem dL_law_826 : decode cL_law 826 = Except.ok (Instr.iadd, 1) := by decide +kernel
theorem dL_law_827 : decode cL_law 827 = Except.ok (Instr.iaload, 1) := by decide +kernel
theorem dL_law_828 : decode cL_law 828 = Except.ok (Instr.aload_n 0, 1) := by decide +kernel
theorem dL_law_829 : decode cL_law 829 = Except.ok (Instr.iload_n 3, 1) := by decide +kernel
theorem dL_law_830 : decode cL_law 830 = Except.ok (Instr.iconst 2, 1) := by decide +kernel
theorem dL_law_831 : decode cL_law 831 = Except.ok (Instr.iadd, 1) := by decide +kernel
theorem dL_law_832 : decode cL_law 832 = Except.ok (Instr.iaload, 1) := by decide +kernel
theorem dL_law_833 : decode cL_law 833 = Except.ok (Instr.aload_n 0, 1) := by decide +kernel
theorem dL_law_834 : decode cL_law 834 = Except.ok (Instr.iload_n 3, 1) := by decide +kernel
theorem dL_law_835 : decode cL_law 835 = Except.ok (Instr.iconst 3, 1) := by decide +kernel
theorem dL_law_836 : decode cL_law 836 = Except.ok (Instr.iadd, 1) := by decide +kernel
theorem dL_law_837 : decode cL_law 837 = Except.ok (Instr.iaload, 1) := by decide +kernel
theorem dL_law_838 : decode cL_law 838 = Except.ok (Instr.invokevirtual 112, 3) := by decide +kernel
theorem dL_law_841 : decode cL_law 841 = Except.ok (Instr.aload_n 2, 1) := by decide +kernel
theorem dL_law_842 : decode cL_law 842 = Except.ok (Instr.aload_n 0, 1) := by decide +kernel
theorem dL_law_843 : decode cL_law 843 = Except.ok (Instr.iload_n 3, 1) := by decide +kernel
theorem dL_law_844 : decode cL_law 844 = Except.ok (Instr.iconst 1, 1) := by decide +kernel
theorem dL_law_845 : decode cL_law 845 = Except.ok (Instr.iadd, 1) := by decide +kernel
theorem dL_law_846 : decode cL_law 846 = Except.ok (Instr.iaload, 1) := by decide +kernel
theorem dL_law_847 : decode cL_law 847 = Except.ok (Instr.aload_n 0, 1) := by decide +kernel
theorem dL_law_848 : decode cL_law 848 = Except.ok (Instr.iload_n 3, 1) := by decide +kernel
theorem dL_law_849 : decode cL_law 849 = Except.ok (Instr.iconst 2, 1) := by decide +kernel
theorem dL_law_850 : decode cL_law 850 = Except.ok (Instr.iadd, 1) := by decide +kernel
theorem dL_law_851 : decode cL_law 851 = Except.ok (Instr.iaload, 1) := by decide +kernel
theorem dL_law_852 : decode cL_law 852 = Except.ok (Instr.aload_n 0, 1) := by decide +kernel
theorem dL_law_853 : decode cL_law 853 = Except.ok (Instr.iload_n 3, 1) := by decide +kernel
theorem dL_law_854 : decode cL_law 854 = Except.ok (Instr.iconst 3, 1) := by decide +kernel
theorem dL_law_855 : decode cL_law 855 = Except.ok (Instr.iadd, 1) := by decide +kernel
theorem dL_law_856 : decode cL_law 856 = Except.ok (Instr.iaload, 1) := by decide +kernel
theorem dL_law_857 : decode cL_law 857 = Except.ok (Instr.invokevirtual 115, 3) := by decide +kernel
theorem dL_law_860 : decode cL_law 860 = Except.ok (Instr.if_icmp .eq 345, 3) := by decide +kernel
theorem dL_law_863 : decode cL_law 863 = Except.ok (Instr.iconst 0, 1) := by decide +kernel
theorem dL_law_864 : decode cL_law 864 = Except.ok (Instr.ireturn, 1) := by decide +kernel
theorem dL_law_865 : decode cL_law 865 = Except.ok (Instr.aload_n 1, 1) := by decide +kernel
theorem dL_law_866 : decode cL_law 866 = Except.ok (Instr.aload_n 0, 1) := by decide +kernel
theorem dL_law_867 : decode cL_law 867 = Except.ok (Instr.iload_n 3, 1) := by decide +kernel
theorem dL_law_868 : decode cL_law 868 = Except.ok (Instr.iconst 1, 1) := by decide +kernel
theorem dL_law_869 : decode cL_law 869 = Except.ok (Instr.iadd, 1) := by decide +kernel
theorem dL_law_870 : decode cL_law 870 = Except.ok (Instr.iaload, 1) := by decide +kernel
theorem dL_law_871 : decode cL_law 871 = Except.ok (Instr.invokevirtual 116, 3) := by decide +kernel
theorem dL_law_874 : decode cL_law 874 = Except.ok (Instr.aload_n 2, 1) := by decide +kernel
theorem dL_law_875 : decode cL_law 875 = Except.ok (Instr.aload_n 0, 1) := by decide +kernel
theorem dL_law_876 : decode cL_law 876 = Except.ok (Instr.iload_n 3, 1) := by decide +kernel
theorem dL_law_877 : decode cL_law 877 = Except.ok (Instr.iconst 1, 1) := by decide +kernel
theorem dL_law_878 : decode cL_law 878 = Except.ok (Instr.iadd, 1) := by decide +kernel
theorem dL_law_879 : decode cL_law 879 = Except.ok (Instr.iaload, 1) := by decide +kernel
theorem dL_law_880 : decode cL_law 880 = Except.ok (Instr.invokevirtual 119, 3) := by decide +kernel
theorem dL_law_883 : decode cL_law 883 = Except.ok (Instr.lcmp, 1) := by decide +kernel
theorem dL_law_884 : decode cL_law 884 = Except.ok (Instr.ifCond .eq 321, 3) := by decide +kernel
theorem dL_law_887 : decode cL_law 887 = Except.ok (Instr.iconst 0, 1) := by decide +kernel
theorem dL_law_888 : decode cL_law 888 = Except.ok (Instr.ireturn, 1) := by decide +kernel
theorem dL_law_889 : decode cL_law 889 = Except.ok (Instr.aload_n 1, 1) := by decide +kernel
theorem dL_law_890 : decode cL_law 890 = Except.ok (Instr.aload_n 0, 1) := by decide +kernel
theorem dL_law_891 : decode cL_law 891 = Except.ok (Instr.iload_n 3, 1) := by decide +kernel
theorem dL_law_892 : decode cL_law 892 = Except.ok (Instr.iconst 1, 1) := by decide +kernel
theorem dL_law_893 : decode cL_law 893 = Except.ok (Instr.iadd, 1) := by decide +kernel
theorem dL_law_894 : decode cL_law 894 = Except.ok (Instr.iaload, 1) := by decide +kernel
theorem dL_law_895 : decode cL_law 895 = Except.ok (Instr.invokevirtual 120, 3) := by decide +kernel
theorem dL_law_898 : decode cL_law 898 = Except.ok (Instr.aload_n 2, 1) := by decide +kernel
theorem dL_law_899 : decode cL_law 899 = Except.ok (Instr.aload_n 0, 1) := by decide +kernel
theorem dL_law_900 : decode cL_law 900 = Except.ok (Instr.iload_n 3, 1) := by decide +kernel
theorem dL_law_901 : decode cL_law 901 = Except.ok (Instr.iconst 1, 1) := by decide +kernel
theorem dL_law_902 : decode cL_law 902 = Except.ok (Instr.iadd, 1) := by decide +kernel
theorem dL_law_903 : decode cL_law 903 = Except.ok (Instr.iaload, 1) := by decide +kernel
theorem dL_law_904 : decode cL_law 904 = Except.ok (Instr.invokevirtual 123, 3) := by decide +kernel
theorem dL_law_907 : decode cL_law 907 = Except.ok (Instr.lcmp, 1) := by decide +kernel
theorem dL_law_908 : decode cL_law 908 = Except.ok (Instr.ifCond .eq 297, 3) := by decide +kernel
theorem dL_law_911 : decode cL_law 911 = Except.ok (Instr.iconst 0, 1) := by decide +kernel
theorem dL_law_912 : decode cL_law 912 = Except.ok (Instr.ireturn, 1) := by decide +kernel
theorem dL_law_913 : decode cL_law 913 = Except.ok (Instr.aload_n 1, 1) := by decide +kernel
theorem dL_law_914 : decode cL_law 914 = Except.ok (Instr.invokevirtual 124, 3) := by decide +kernel
theorem dL_law_917 : decode cL_law 917 = Except.ok (Instr.aload_n 2, 1) := by decide +kernel
theorem dL_law_918 : decode cL_law 918 = Except.ok (Instr.invokevirtual 128, 3) := by decide +kernel
theorem dL_law_921 : decode cL_law 921 = Except.ok (Instr.lcmp, 1) := by decide +kernel
theorem dL_law_922 : decode cL_law 922 = Except.ok (Instr.ifCond .eq 283, 3) := by decide +kernel
theorem dL_law_925 : decode cL_law 925 = Except.ok (Instr.iconst 0, 1) := by decide +kernel
theorem dL_law_926 : decode cL_law 926 = Except.ok (Instr.ireturn, 1) := by decide +kernel
theorem dL_law_927 : decode cL_law 927 = Except.ok (Instr.aload_n 1, 1) := by decide +kernel
theorem dL_law_928 : decode cL_law 928 = Except.ok (Instr.invokevirtual 129, 3) := by decide +kernel
theorem dL_law_931 : decode cL_law 931 = Except.ok (Instr.aload_n 2, 1) := by decide +kernel
theorem dL_law_932 : decode cL_law 932 = Except.ok (Instr.invokevirtual 132, 3) := by decide +kernel
theorem dL_law_935 : decode cL_law 935 = Except.ok (Instr.lcmp, 1) := by decide +kernel
theorem dL_law_936 : decode cL_law 936 = Except.ok (Instr.ifCond .eq 269, 3) := by decide +kernel
theorem dL_law_939 : decode cL_law 939 = Except.ok (Instr.iconst 0, 1) := by decide +kernel
theorem dL_law_940 : decode cL_law 940 = Except.ok (Instr.ireturn, 1) := by decide +kernel
theorem dL_law_941 : decode cL_law 941 = Except.ok (Instr.aload_n 1, 1) := by decide +kernel
theorem dL_law_942 : decode cL_law 942 = Except.ok (Instr.invokevirtual 133, 3) := by decide +kernel
theorem dL_law_945 : decode cL_law 945 = Except.ok (Instr.aload_n 2, 1) := by decide +kernel
theorem dL_law_946 : decode cL_law 946 = Except.ok (Instr.invokevirtual 136, 3) := by decide +kernel
theorem dL_law_949 : decode cL_law 949 = Except.ok (Instr.lcmp, 1) := by decide +kernel
theorem dL_law_950 : decode cL_law 950 = Except.ok (Instr.ifCond .eq 255, 3) := by decide +kernel
theorem dL_law_953 : decode cL_law 953 = Except.ok (Instr.iconst 0, 1) := by decide +kernel
theorem dL_law_954 : decode cL_law 954 = Except.ok (Instr.ireturn, 1) := by decide +kernel
theorem dL_law_955 : decode cL_law 955 = Except.ok (Instr.aload_n 1, 1) := by decide +kernel
theorem dL_law_956 : decode cL_law 956 = Except.ok (Instr.aload_n 0, 1) := by decide +kernel
theorem dL_law_957 : decode cL_law 957 = Except.ok (Instr.iload_n 3, 1) := by decide +kernel
theorem dL_law_958 : decode cL_law 958 = Except.ok (Instr.iconst 1, 1) := by decide +kernel
theorem dL_law_959 : decode cL_law 959 = Except.ok (Instr.iadd, 1) := by decide +kernel
theorem dL_law_960 : decode cL_law 960 = Except.ok (Instr.iaload, 1) := by decide +kernel
theorem dL_law_961 : decode cL_law 961 = Except.ok (Instr.aload_n 0, 1) := by decide +kernel
theorem dL_law_962 : decode cL_law 962 = Except.ok (Instr.iload_n 3, 1) := by decide +kernel
theorem dL_law_963 : decode cL_law 963 = Except.ok (Instr.iconst 2, 1) := by decide +kernel
theorem dL_law_964 : decode cL_law 964 = Except.ok (Instr.iadd, 1) := by decide +kernel
theorem dL_law_965 : decode cL_law 965 = Except.ok (Instr.iaload, 1) := by decide +kernel
theorem dL_law_966 : decode cL_law 966 = Except.ok (Instr.aload_n 0, 1) := by decide +kernel
theorem dL_law_967 : decode cL_law 967 = Except.ok (Instr.iload_n 3, 1) := by decide +kernel
theorem dL_law_968 : decode cL_law 968 = Except.ok (Instr.iconst 3, 1) := by decide +kernel
theorem dL_law_969 : decode cL_law 969 = Except.ok (Instr.iadd, 1) := by decide +kernel
theorem dL_law_970 : decode cL_law 970 = Except.ok (Instr.iaload, 1) := by decide +kernel
theorem dL_law_971 : decode cL_law 971 = Except.ok (Instr.aload_n 0, 1) := by decide +kernel
theorem dL_law_972 : decode cL_law 972 = Except.ok (Instr.iload_n 3, 1) := by decide +kernel
theorem dL_law_973 : decode cL_law 973 = Except.ok (Instr.iconst 4, 1) := by decide +kernel
theorem dL_law_974 : decode cL_law 974 = Except.ok (Instr.iadd, 1) := by decide +kernel
theorem dL_law_975 : decode cL_law 975 = Except.ok (Instr.iaload, 1) := by decide +kernel
theorem dL_law_976 : decode cL_law 976 = Except.ok (Instr.invokevirtual 137, 3) := by decide +kernel
theorem dL_law_979 : decode cL_law 979 = Except.ok (Instr.aload_n 2, 1) := by decide +kernel
theorem dL_law_980 : decode cL_law 980 = Except.ok (Instr.aload_n 0, 1) := by decide +kernel
theorem dL_law_981 : decode cL_law 981 = Except.ok (Instr.iload_n 3, 1) := by decide +kernel
theorem dL_law_982 : decode cL_law 982 = Except.ok (Instr.iconst 1, 1) := by decide +kernel
theorem dL_law_983 : decode cL_law 983 = Except.ok (Instr.iadd, 1) := by decide +kernel
theorem dL_law_984 : decode cL_law 984 = Except.ok (Instr.iaload, 1) := by decide +kernel
theorem dL_law_985 : decode cL_law 985 = Except.ok (Instr.aload_n 0, 1) := by decide +kernel
theorem dL_law_986 : decode cL_law 986 = Except.ok (Instr.iload_n 3, 1) := by decide +kernel
theorem dL_law_987 : decode cL_law 987 = Except.ok (Instr.iconst 2, 1) := by decide +kernel
theorem dL_law_988 : decode cL_law 988 = Except.ok (Instr.iadd, 1) := by decide +kernel
theorem dL_law_989 : decode cL_law 989 = Except.ok (Instr.iaload, 1) := by decide +kernel
theorem dL_law_990 : decode cL_law 990 = Except.ok (Instr.aload_n 0, 1) := by decide +kernel
theorem dL_law_991 : decode cL_law 991 = Except.ok (Instr.iload_n 3, 1) := by decide +kernel
theorem dL_law_992 : decode cL_law 992 = Except.ok (Instr.iconst 3, 1) := by decide +kernel
theorem dL_law_993 : decode cL_law 993 = Except.ok (Instr.iadd, 1) := by decide +kernel
theorem dL_law_994 : decode cL_law 994 = Except.ok (Instr.iaload, 1) := by decide +kernel
theorem dL_law_995 : decode cL_law 995 = Except.ok (Instr.aload_n 0, 1) := by decide +kernel
theorem dL_law_996 : decode cL_law 996 = Except.ok (Instr.iload_n 3, 1) := by decide +kernel
theorem dL_law_997 : decode cL_law 997 = Except.ok (Instr.iconst 4, 1) := by decide +kernel
theorem dL_law_998 : decode cL_law 998 = Except.ok (Instr.iadd, 1) := by decide +kernel
theorem dL_law_999 : decode cL_law 999 = Except.ok (Instr.iaload, 1) := by decide +kernel
theorem dL_law_1000 : decode cL_law 1000 = Except.ok (Instr.invokevirtual 141, 3) := by decide +kernel
theorem dL_law_1003 : decode cL_law 1003 = Except.ok (Instr.lcmp, 1) := by decide +kernel
theorem dL_law_1004 : decode cL_law 1004 = Except.ok (Instr.ifCond .eq 201, 3) := by decide +kernel
theorem dL_law_1007 : decode cL_law 1007 = Except.ok (Instr.iconst 0, 1) := by decide +kernel
theorem dL_law_1008 : decode cL_law 1008 = Except.ok (Instr.ireturn, 1) := by decide +kernel
theorem dL_law_1009 : decode cL_law 1009 = Except.ok (Instr.aload_n 1, 1) := by decide +kernel
theorem dL_law_1010 : decode cL_law 1010 = Except.ok (Instr.aload_n 0, 1) := by decide +kernel
theorem dL_law_1011 : decode cL_law 1011 = Except.ok (Instr.iload_n 3, 1) := by decide +kernel
theorem dL_law_1012 : decode cL_law 1012 = Except.ok (Instr.iconst 1, 1) := by decide +kernel
theorem dL_law_1013 : decode cL_law 1013 = Except.ok (Instr.iadd, 1) := by decide +kernel
theorem dL_law_1014 : decode cL_law 1014 = Except.ok (Instr.iaload, 1) := by decide +kernel
theorem dL_law_1015 : decode cL_law 1015 = Except.ok (Instr.aload_n 0, 1) := by decide +kernel
theorem dL_law_1016 : decode cL_law 1016 = Except.ok (Instr.iload_n 3, 1) := by decide +kernel
theorem dL_law_1017 : decode cL_law 1017 = Except.ok (Instr.iconst 2, 1) := by decide +kernel
theorem dL_law_1018 : decode cL_law 1018 = Except.ok (Instr.iadd, 1) := by decide +kernel
theorem dL_law_1019 : decode cL_law 1019 = Except.ok (Instr.iaload, 1) := by decide +kernel
theorem dL_law_1020 : decode cL_law 1020 = Except.ok (Instr.aload_n 0, 1) := by decide +kernel
theorem dL_law_1021 : decode cL_law 1021 = Except.ok (Instr.iload_n 3, 1) := by decide +kernel
theorem dL_law_1022 : decode cL_law 1022 = Except.ok (Instr.iconst 3, 1) := by decide +kernel
theorem dL_law_1023 : decode cL_law 1023 = Except.ok (Instr.iadd, 1) := by decide +kernel
theorem dL_law_1024 : decode cL_law 1024 = Except.ok (Instr.iaload, 1) := by decide +kernel
theorem dL_law_1025 : decode cL_law 1025 = Except.ok (Instr.aload_n 0, 1) := by decide +kernel
theorem dL_law_1026 : decode cL_law 1026 = Except.ok (Instr.iload_n 3, 1) := by decide +kernel
theorem dL_law_1027 : decode cL_law 1027 = Except.ok (Instr.iconst 4, 1) := by decide +kernel
theorem dL_law_1028 : decode cL_law 1028 = Except.ok (Instr.iadd, 1) := by decide +kernel
theorem dL_law_1029 : decode cL_law 1029 = Except.ok (Instr.iaload, 1) := by decide +kernel
theorem dL_law_1030 : decode cL_law 1030 = Except.ok (Instr.invokevirtual 142, 3) := by decide +kernel
theorem dL_law_1033 : decode cL_law 1033 = Except.ok (Instr.aload_n 2, 1) := by decide +kernel
theorem dL_law_1034 : decode cL_law 1034 = Except.ok (Instr.aload_n 0, 1) := by decide +kernel
theorem dL_law_1035 : decode cL_law 1035 = Except.ok (Instr.iload_n 3, 1) := by decide +kernel
theorem dL_law_1036 : decode cL_law 1036 = Except.ok (Instr.iconst 1, 1) := by decide +kernel
theorem dL_law_1037 : decode cL_law 1037 = Except.ok (Instr.iadd, 1) := by decide +kernel
theorem dL_law_1038 : decode cL_law 1038 = Except.ok (Instr.iaload, 1) := by decide +kernel
theorem dL_law_1039 : decode cL_law 1039 = Except.ok (Instr.aload_n 0, 1) := by decide +kernel
theorem dL_law_1040 : decode cL_law 1040 = Except.ok (Instr.iload_n 3, 1) := by decide +kernel
theorem dL_law_1041 : decode cL_law 1041 = Except.ok (Instr.iconst 2, 1) := by decide +kernel
theorem dL_law_1042 : decode cL_law 1042 = Except.ok (Instr.iadd, 1) := by decide +kernel
theorem dL_law_1043 : decode cL_law 1043 = Except.ok (Instr.iaload, 1) := by decide +kernel
theorem dL_law_1044 : decode cL_law 1044 = Except.ok (Instr.aload_n 0, 1) := by decide +kernel
theorem dL_law_1045 : decode cL_law 1045 = Except.ok (Instr.iload_n 3, 1) := by decide +kernel
theorem dL_law_1046 : decode cL_law 1046 = Except.ok (Instr.iconst 3, 1) := by decide +kernel
theorem dL_law_1047 : decode cL_law 1047 = Except.ok (Instr.iadd, 1) := by decide +kernel
theorem dL_law_1048 : decode cL_law 1048 = Except.ok (Instr.iaload, 1) := by decide +kernel
theorem dL_law_1049 : decode cL_law 1049 = Except.ok (Instr.aload_n 0, 1) := by decide +kernel
theorem dL_law_1050 : decode cL_law 1050 = Except.ok (Instr.iload_n 3, 1) := by decide +kernel
theorem dL_law_1051 : decode cL_law 1051 = Except.ok (Instr.iconst 4, 1) := by decide +kernel
theorem dL_law_1052 : decode cL_law 1052 = Except.ok (Instr.iadd, 1) := by decide +kernel
theorem dL_law_1053 : decode cL_law 1053 = Except.ok (Instr.iaload, 1) := by decide +kernel
theorem dL_law_1054 : decode cL_law 1054 = Except.ok (Instr.invokevirtual 145, 3) := by decide +kernel
theorem dL_law_1057 : decode cL_law 1057 = Except.ok (Instr.lcmp, 1) := by decide +kernel
theorem dL_law_1058 : decode cL_law 1058 = Except.ok (Instr.ifCond .eq 147, 3) := by decide +kernel
theorem dL_law_1061 : decode cL_law 1061 = Except.ok (Instr.iconst 0, 1) := by decide +kernel
theorem dL_law_1062 : decode cL_law 1062 = Except.ok (Instr.ireturn, 1) := by decide +kernel
theorem dL_law_1063 : decode cL_law 1063 = Except.ok (Instr.aload_n 1, 1) := by decide +kernel
theorem dL_law_1064 : decode cL_law 1064 = Except.ok (Instr.invokevirtual 146, 3) := by decide +kernel
theorem dL_law_1067 : decode cL_law 1067 = Except.ok (Instr.aload_n 2, 1) := by decide +kernel
theorem dL_law_1068 : decode cL_law 1068 = Except.ok (Instr.invokevirtual 149, 3) := by decide +kernel
theorem dL_law_1071 : decode cL_law 1071 = Except.ok (Instr.if_icmp .eq 134, 3) := by decide +kernel
theorem dL_law_1074 : decode cL_law 1074 = Except.ok (Instr.iconst 0, 1) := by decide +kernel
theorem dL_law_1075 : decode cL_law 1075 = Except.ok (Instr.ireturn, 1) := by decide +kernel
theorem dL_law_1076 : decode cL_law 1076 = Except.ok (Instr.aload_n 1, 1) := by decide +kernel
theorem dL_law_1077 : decode cL_law 1077 = Except.ok (Instr.aload_n 0, 1) := by decide +kernel
theorem dL_law_1078 : decode cL_law 1078 = Except.ok (Instr.iload_n 3, 1) := by decide +kernel
theorem dL_law_1079 : decode cL_law 1079 = Except.ok (Instr.iconst 1, 1) := by decide +kernel
theorem dL_law_1080 : decode cL_law 1080 = Except.ok (Instr.iadd, 1) := by decide +kernel
theorem dL_law_1081 : decode cL_law 1081 = Except.ok (Instr.iaload, 1) := by decide +kernel
theorem dL_law_1082 : decode cL_law 1082 = Except.ok (Instr.invokevirtual 150, 3) := by decide +kernel
theorem dL_law_1085 : decode cL_law 1085 = Except.ok (Instr.aload_n 2, 1) := by decide +kernel
theorem dL_law_1086 : decode cL_law 1086 = Except.ok (Instr.aload_n 0, 1) := by decide +kernel
theorem dL_law_1087 : decode cL_law 1087 = Except.ok (Instr.iload_n 3, 1) := by decide +kernel
theorem dL_law_1088 : decode cL_law 1088 = Except.ok (Instr.iconst 1, 1) := by decide +kernel
theorem dL_law_1089 : decode cL_law 1089 = Except.ok (Instr.iadd, 1) := by decide +kernel
theorem dL_law_1090 : decode cL_law 1090 = Except.ok (Instr.iaload, 1) := by decide +kernel
theorem dL_law_1091 : decode cL_law 1091 = Except.ok (Instr.invokevirtual 153, 3) := by decide +kernel
theorem dL_law_1094 : decode cL_law 1094 = Except.ok (Instr.if_icmp .eq 111, 3) := by decide +kernel
theorem dL_law_1097 : decode cL_law 1097 = Except.ok (Instr.iconst 0, 1) := by decide +kernel
theorem dL_law_1098 : decode cL_law 1098 = Except.ok (Instr.ireturn, 1) := by decide +kernel
theorem dL_law_1099 : decode cL_law 1099 = Except.ok (Instr.aload_n 1, 1) := by decide +kernel
theorem dL_law_1100 : decode cL_law 1100 = Except.ok (Instr.aload_n 0, 1) := by decide +kernel
theorem dL_law_1101 : decode cL_law 1101 = Except.ok (Instr.iload_n 3, 1) := by decide +kernel
theorem dL_law_1102 : decode cL_law 1102 = Except.ok (Instr.iconst 1, 1) := by decide +kernel
theorem dL_law_1103 : decode cL_law 1103 = Except.ok (Instr.iadd, 1) := by decide +kernel
theorem dL_law_1104 : decode cL_law 1104 = Except.ok (Instr.iaload, 1) := by decide +kernel
theorem dL_law_1105 : decode cL_law 1105 = Except.ok (Instr.invokevirtual 154, 3) := by decide +kernel
theorem dL_law_1108 : decode cL_law 1108 = Except.ok (Instr.aload_n 2, 1) := by decide +kernel
theorem dL_law_1109 : decode cL_law 1109 = Except.ok (Instr.aload_n 0, 1) := by decide +kernel
theorem dL_law_1110 : decode cL_law 1110 = Except.ok (Instr.iload_n 3, 1) := by decide +kernel
theorem dL_law_1111 : decode cL_law 1111 = Except.ok (Instr.iconst 1, 1) := by decide +kernel
theorem dL_law_1112 : decode cL_law 1112 = Except.ok (Instr.iadd, 1) := by decide +kernel
theorem dL_law_1113 : decode cL_law 1113 = Except.ok (Instr.iaload, 1) := by decide +kernel
theorem dL_law_1114 : decode cL_law 1114 = Except.ok (Instr.invokevirtual 157, 3) := by decide +kernel
theorem dL_law_1117 : decode cL_law 1117 = Except.ok (Instr.if_icmp .eq 88, 3) := by decide +kernel
theorem dL_law_1120 : decode cL_law 1120 = Except.ok (Instr.iconst 0, 1) := by decide +kernel
theorem dL_law_1121 : decode cL_law 1121 = Except.ok (Instr.ireturn, 1) := by decide +kernel
theorem dL_law_1122 : decode cL_law 1122 = Except.ok (Instr.aload_n 1, 1) := by decide +kernel
theorem dL_law_1123 : decode cL_law 1123 = Except.ok (Instr.aload_n 0, 1) := by decide +kernel
theorem dL_law_1124 : decode cL_law 1124 = Except.ok (Instr.iload_n 3, 1) := by decide +kernel
theorem dL_law_1125 : decode cL_law 1125 = Except.ok (Instr.iconst 1, 1) := by decide +kernel
theorem dL_law_1126 : decode cL_law 1126 = Except.ok (Instr.iadd, 1) := by decide +kernel
theorem dL_law_1127 : decode cL_law 1127 = Except.ok (Instr.iaload, 1) := by decide +kernel
theorem dL_law_1128 : decode cL_law 1128 = Except.ok (Instr.invokevirtual 158, 3) := by decide +kernel
theorem dL_law_1131 : decode cL_law 1131 = Except.ok (Instr.aload_n 2, 1) := by decide +kernel
theorem dL_law_1132 : decode cL_law 1132 = Except.ok (Instr.aload_n 0, 1) := by decide +kernel
theorem dL_law_1133 : decode cL_law 1133 = Except.ok (Instr.iload_n 3, 1) := by decide +kernel
theorem dL_law_1134 : decode cL_law 1134 = Except.ok (Instr.iconst 1, 1) := by decide +kernel
theorem dL_law_1135 : decode cL_law 1135 = Except.ok (Instr.iadd, 1) := by decide +kernel
theorem dL_law_1136 : decode cL_law 1136 = Except.ok (Instr.iaload, 1) := by decide +kernel
theorem dL_law_1137 : decode cL_law 1137 = Except.ok (Instr.invokevirtual 161, 3) := by decide +kernel
theorem dL_law_1140 : decode cL_law 1140 = Except.ok (Instr.if_icmp .eq 65, 3) := by decide +kernel
theorem dL_law_1143 : decode cL_law 1143 = Except.ok (Instr.iconst 0, 1) := by decide +kernel
theorem dL_law_1144 : decode cL_law 1144 = Except.ok (Instr.ireturn, 1) := by decide +kernel
theorem dL_law_1145 : decode cL_law 1145 = Except.ok (Instr.aload_n 1, 1) := by decide +kernel
theorem dL_law_1146 : decode cL_law 1146 = Except.ok (Instr.aload_n 0, 1) := by decide +kernel
theorem dL_law_1147 : decode cL_law 1147 = Except.ok (Instr.iload_n 3, 1) := by decide +kernel
theorem dL_law_1148 : decode cL_law 1148 = Except.ok (Instr.iconst 1, 1) := by decide +kernel
theorem dL_law_1149 : decode cL_law 1149 = Except.ok (Instr.iadd, 1) := by decide +kernel
theorem dL_law_1150 : decode cL_law 1150 = Except.ok (Instr.iaload, 1) := by decide +kernel
theorem dL_law_1151 : decode cL_law 1151 = Except.ok (Instr.invokevirtual 162, 3) := by decide +kernel
theorem dL_law_1154 : decode cL_law 1154 = Except.ok (Instr.aload_n 2, 1) := by decide +kernel
theorem dL_law_1155 : decode cL_law 1155 = Except.ok (Instr.aload_n 0, 1) := by decide +kernel
theorem dL_law_1156 : decode cL_law 1156 = Except.ok (Instr.iload_n 3, 1) := by decide +kernel
theorem dL_law_1157 : decode cL_law 1157 = Except.ok (Instr.iconst 1, 1) := by decide +kernel
theorem dL_law_1158 : decode cL_law 1158 = Except.ok (Instr.iadd, 1) := by decide +kernel
theorem dL_law_1159 : decode cL_law 1159 = Except.ok (Instr.iaload, 1) := by decide +kernel
theorem dL_law_1160 : decode cL_law 1160 = Except.ok (Instr.invokevirtual 165, 3) := by decide +kernel
theorem dL_law_1163 : decode cL_law 1163 = Except.ok (Instr.lcmp, 1) := by decide +kernel
theorem dL_law_1164 : decode cL_law 1164 = Except.ok (Instr.ifCond .eq 41, 3) := by decide +kernel
theorem dL_law_1167 : decode cL_law 1167 = Except.ok (Instr.iconst 0, 1) := by decide +kernel
theorem dL_law_1168 : decode cL_law 1168 = Except.ok (Instr.ireturn, 1) := by decide +kernel
theorem dL_law_1169 : decode cL_law 1169 = Except.ok (Instr.aload_n 1, 1) := by decide +kernel
theorem dL_law_1170 : decode cL_law 1170 = Except.ok (Instr.aload_n 0, 1) := by decide +kernel
theorem dL_law_1171 : decode cL_law 1171 = Except.ok (Instr.iload_n 3, 1) := by decide +kernel
theorem dL_law_1172 : decode cL_law 1172 = Except.ok (Instr.iconst 1, 1) := by decide +kernel
theorem dL_law_1173 : decode cL_law 1173 = Except.ok (Instr.iadd, 1) := by decide +kernel
theorem dL_law_1174 : decode cL_law 1174 = Except.ok (Instr.iaload, 1) := by decide +kernel
theorem dL_law_1175 : decode cL_law 1175 = Except.ok (Instr.invokevirtual 166, 3) := by decide +kernel
theorem dL_law_1178 : decode cL_law 1178 = Except.ok (Instr.aload_n 2, 1) := by decide +kernel
theorem dL_law_1179 : decode cL_law 1179 = Except.ok (Instr.aload_n 0, 1) := by decide +kernel
theorem dL_law_1180 : decode cL_law 1180 = Except.ok (Instr.iload_n 3, 1) := by decide +kernel
theorem dL_law_1181 : decode cL_law 1181 = Except.ok (Instr.iconst 1, 1) := by decide +kernel
theorem dL_law_1182 : decode cL_law 1182 = Except.ok (Instr.iadd, 1) := by decide +kernel
theorem dL_law_1183 : decode cL_law 1183 = Except.ok (Instr.iaload, 1) := by decide +kernel
theorem dL_law_1184 : decode cL_law 1184 = Except.ok (Instr.invokevirtual 169, 3) := by decide +kernel
theorem dL_law_1187 : decode cL_law 1187 = Except.ok (Instr.if_icmp .eq 18, 3) := by decide +kernel
theorem dL_law_1190 : decode cL_law 1190 = Except.ok (Instr.iconst 0, 1) := by decide +kernel
theorem dL_law_1191 : decode cL_law 1191 = Except.ok (Instr.ireturn, 1) := by decide +kernel
theorem dL_law_1192 : decode cL_law 1192 = Except.ok (Instr.aload_n 1, 1) := by decide +kernel
theorem dL_law_1193 : decode cL_law 1193 = Except.ok (Instr.invokevirtual 170, 3) := by decide +kernel
theorem dL_law_1196 : decode cL_law 1196 = Except.ok (Instr.aload_n 2, 1) := by decide +kernel
theorem dL_law_1197 : decode cL_law 1197 = Except.ok (Instr.invokevirtual 173, 3) := by decide +kernel
theorem dL_law_1200 : decode cL_law 1200 = Except.ok (Instr.if_icmp .eq 5, 3) := by decide +kernel
theorem dL_law_1203 : decode cL_law 1203 = Except.ok (Instr.iconst 0, 1) := by decide +kernel
theorem dL_law_1204 : decode cL_law 1204 = Except.ok (Instr.ireturn, 1) := by decide +kernel
theorem dL_law_1205 : decode cL_law 1205 = Except.ok (Instr.iinc 3 6, 3) := by decide +kernel
theorem dL_law_1208 : decode cL_law 1208 = Except.ok (Instr.goto (-1190), 3) := by decide +kernel
theorem dL_law_1211 : decode cL_law 1211 = Except.ok (Instr.iconst 1, 1) := by decide +kernel
theorem dL_law_1212 : decode cL_law 1212 = Except.ok (Instr.ireturn, 1) := by decide +kernel
