/-! ===== the law on the pure machine ===== -/
theorem dL_law_0 : decode cL_law 0 = .ok (.new 7, 3) := by decide +kernel
theorem dL_law_3 : decode cL_law 3 = .ok (.dup, 1) := by decide +kernel
theorem dL_law_4 : decode cL_law 4 = .ok (.invokespecial 9, 3) := by decide +kernel
theorem dL_law_7 : decode cL_law 7 = .ok (.astore_n 1, 1) := by decide +kernel
theorem dL_law_8 : decode cL_law 8 = .ok (.new 10, 3) := by decide +kernel
theorem dL_law_11 : decode cL_law 11 = .ok (.dup, 1) := by decide +kernel
theorem dL_law_12 : decode cL_law 12 = .ok (.invokespecial 12, 3) := by decide +kernel
theorem dL_law_15 : decode cL_law 15 = .ok (.astore_n 2, 1) := by decide +kernel
theorem dL_law_16 : decode cL_law 16 = .ok (.iconst 0, 1) := by decide +kernel
theorem dL_law_17 : decode cL_law 17 = .ok (.istore_n 3, 1) := by decide +kernel
theorem dL_law_18 : decode cL_law 18 = .ok (.iload_n 3, 1) := by decide +kernel
theorem dL_law_19 : decode cL_law 19 = .ok (.aload_n 0, 1) := by decide +kernel
theorem dL_law_20 : decode cL_law 20 = .ok (.arraylength, 1) := by decide +kernel
theorem dL_law_21 : decode cL_law 21 = .ok (.iconst 5, 1) := by decide +kernel
theorem dL_law_22 : decode cL_law 22 = .ok (.isub, 1) := by decide +kernel
theorem dL_law_23 : decode cL_law 23 = .ok (.if_icmp .gt 1044, 3) := by decide +kernel
theorem dL_law_26 : decode cL_law 26 = .ok (.aload_n 0, 1) := by decide +kernel
theorem dL_law_27 : decode cL_law 27 = .ok (.iload_n 3, 1) := by decide +kernel
theorem dL_law_28 : decode cL_law 28 = .ok (.iaload, 1) := by decide +kernel
theorem dL_law_29 : decode cL_law 29 = .ok (.bipush 31, 2) := by decide +kernel
theorem dL_law_31 : decode cL_law 31 = .ok (.iand, 1) := by decide +kernel
theorem dL_law_32 : decode cL_law 32 = .ok (.tableswitch 1029 0 28 #[132, 155, 198, 231, 274, 297, 320, 343, 376, 419, 472, 505, 528, 571, 604, 637, 660, 693, 736, 759, 782, 815, 838, 851, 894, 917, 980, 993, 1006], 132) := by decide +kernel
theorem dL_law_164 : decode cL_law 164 = .ok (.aload_n 1, 1) := by decide +kernel
theorem dL_law_165 : decode cL_law 165 = .ok (.aload_n 0, 1) := by decide +kernel
theorem dL_law_166 : decode cL_law 166 = .ok (.iload_n 3, 1) := by decide +kernel
theorem dL_law_167 : decode cL_law 167 = .ok (.iconst 1, 1) := by decide +kernel
theorem dL_law_168 : decode cL_law 168 = .ok (.iadd, 1) := by decide +kernel
theorem dL_law_169 : decode cL_law 169 = .ok (.iaload, 1) := by decide +kernel
theorem dL_law_170 : decode cL_law 170 = .ok (.invokevirtual 13, 3) := by decide +kernel
theorem dL_law_173 : decode cL_law 173 = .ok (.aload_n 2, 1) := by decide +kernel
theorem dL_law_174 : decode cL_law 174 = .ok (.aload_n 0, 1) := by decide +kernel
theorem dL_law_175 : decode cL_law 175 = .ok (.iload_n 3, 1) := by decide +kernel
theorem dL_law_176 : decode cL_law 176 = .ok (.iconst 1, 1) := by decide +kernel
theorem dL_law_177 : decode cL_law 177 = .ok (.iadd, 1) := by decide +kernel
theorem dL_law_178 : decode cL_law 178 = .ok (.iaload, 1) := by decide +kernel
theorem dL_law_179 : decode cL_law 179 = .ok (.invokevirtual 17, 3) := by decide +kernel
theorem dL_law_182 : decode cL_law 182 = .ok (.if_icmp .eq 879, 3) := by decide +kernel
theorem dL_law_185 : decode cL_law 185 = .ok (.iconst 0, 1) := by decide +kernel
theorem dL_law_186 : decode cL_law 186 = .ok (.ireturn, 1) := by decide +kernel
theorem dL_law_187 : decode cL_law 187 = .ok (.aload_n 1, 1) := by decide +kernel
theorem dL_law_188 : decode cL_law 188 = .ok (.aload_n 0, 1) := by decide +kernel
theorem dL_law_189 : decode cL_law 189 = .ok (.iload_n 3, 1) := by decide +kernel
theorem dL_law_190 : decode cL_law 190 = .ok (.iconst 1, 1) := by decide +kernel
theorem dL_law_191 : decode cL_law 191 = .ok (.iadd, 1) := by decide +kernel
theorem dL_law_192 : decode cL_law 192 = .ok (.iaload, 1) := by decide +kernel
theorem dL_law_193 : decode cL_law 193 = .ok (.aload_n 0, 1) := by decide +kernel
theorem dL_law_194 : decode cL_law 194 = .ok (.iload_n 3, 1) := by decide +kernel
theorem dL_law_195 : decode cL_law 195 = .ok (.iconst 2, 1) := by decide +kernel
theorem dL_law_196 : decode cL_law 196 = .ok (.iadd, 1) := by decide +kernel
theorem dL_law_197 : decode cL_law 197 = .ok (.iaload, 1) := by decide +kernel
theorem dL_law_198 : decode cL_law 198 = .ok (.aload_n 0, 1) := by decide +kernel
theorem dL_law_199 : decode cL_law 199 = .ok (.iload_n 3, 1) := by decide +kernel
theorem dL_law_200 : decode cL_law 200 = .ok (.iconst 3, 1) := by decide +kernel
theorem dL_law_201 : decode cL_law 201 = .ok (.iadd, 1) := by decide +kernel
theorem dL_law_202 : decode cL_law 202 = .ok (.iaload, 1) := by decide +kernel
theorem dL_law_203 : decode cL_law 203 = .ok (.invokevirtual 18, 3) := by decide +kernel
theorem dL_law_206 : decode cL_law 206 = .ok (.aload_n 2, 1) := by decide +kernel
theorem dL_law_207 : decode cL_law 207 = .ok (.aload_n 0, 1) := by decide +kernel
theorem dL_law_208 : decode cL_law 208 = .ok (.iload_n 3, 1) := by decide +kernel
theorem dL_law_209 : decode cL_law 209 = .ok (.iconst 1, 1) := by decide +kernel
theorem dL_law_210 : decode cL_law 210 = .ok (.iadd, 1) := by decide +kernel
theorem dL_law_211 : decode cL_law 211 = .ok (.iaload, 1) := by decide +kernel
theorem dL_law_212 : decode cL_law 212 = .ok (.aload_n 0, 1) := by decide +kernel
theorem dL_law_213 : decode cL_law 213 = .ok (.iload_n 3, 1) := by decide +kernel
theorem dL_law_214 : decode cL_law 214 = .ok (.iconst 2, 1) := by decide +kernel
theorem dL_law_215 : decode cL_law 215 = .ok (.iadd, 1) := by decide +kernel
theorem dL_law_216 : decode cL_law 216 = .ok (.iaload, 1) := by decide +kernel
theorem dL_law_217 : decode cL_law 217 = .ok (.aload_n 0, 1) := by decide +kernel
theorem dL_law_218 : decode cL_law 218 = .ok (.iload_n 3, 1) := by decide +kernel
theorem dL_law_219 : decode cL_law 219 = .ok (.iconst 3, 1) := by decide +kernel
theorem dL_law_220 : decode cL_law 220 = .ok (.iadd, 1) := by decide +kernel
theorem dL_law_221 : decode cL_law 221 = .ok (.iaload, 1) := by decide +kernel
theorem dL_law_222 : decode cL_law 222 = .ok (.invokevirtual 22, 3) := by decide +kernel
theorem dL_law_225 : decode cL_law 225 = .ok (.if_icmp .eq 836, 3) := by decide +kernel
theorem dL_law_228 : decode cL_law 228 = .ok (.iconst 0, 1) := by decide +kernel
theorem dL_law_229 : decode cL_law 229 = .ok (.ireturn, 1) := by decide +kernel
theorem dL_law_230 : decode cL_law 230 = .ok (.aload_n 1, 1) := by decide +kernel
theorem dL_law_231 : decode cL_law 231 = .ok (.aload_n 0, 1) := by decide +kernel
theorem dL_law_232 : decode cL_law 232 = .ok (.iload_n 3, 1) := by decide +kernel
theorem dL_law_233 : decode cL_law 233 = .ok (.iconst 1, 1) := by decide +kernel
theorem dL_law_234 : decode cL_law 234 = .ok (.iadd, 1) := by decide +kernel
theorem dL_law_235 : decode cL_law 235 = .ok (.iaload, 1) := by decide +kernel
theorem dL_law_236 : decode cL_law 236 = .ok (.aload_n 0, 1) := by decide +kernel
theorem dL_law_237 : decode cL_law 237 = .ok (.iload_n 3, 1) := by decide +kernel
theorem dL_law_238 : decode cL_law 238 = .ok (.iconst 2, 1) := by decide +kernel
theorem dL_law_239 : decode cL_law 239 = .ok (.iadd, 1) := by decide +kernel
theorem dL_law_240 : decode cL_law 240 = .ok (.iaload, 1) := by decide +kernel
theorem dL_law_241 : decode cL_law 241 = .ok (.invokevirtual 23, 3) := by decide +kernel
theorem dL_law_244 : decode cL_law 244 = .ok (.aload_n 2, 1) := by decide +kernel
theorem dL_law_245 : decode cL_law 245 = .ok (.aload_n 0, 1) := by decide +kernel
theorem dL_law_246 : decode cL_law 246 = .ok (.iload_n 3, 1) := by decide +kernel
theorem dL_law_247 : decode cL_law 247 = .ok (.iconst 1, 1) := by decide +kernel
theorem dL_law_248 : decode cL_law 248 = .ok (.iadd, 1) := by decide +kernel
theorem dL_law_249 : decode cL_law 249 = .ok (.iaload, 1) := by decide +kernel
theorem dL_law_250 : decode cL_law 250 = .ok (.aload_n 0, 1) := by decide +kernel
theorem dL_law_251 : decode cL_law 251 = .ok (.iload_n 3, 1) := by decide +kernel
theorem dL_law_252 : decode cL_law 252 = .ok (.iconst 2, 1) := by decide +kernel
theorem dL_law_253 : decode cL_law 253 = .ok (.iadd, 1) := by decide +kernel
theorem dL_law_254 : decode cL_law 254 = .ok (.iaload, 1) := by decide +kernel
theorem dL_law_255 : decode cL_law 255 = .ok (.invokevirtual 27, 3) := by decide +kernel
theorem dL_law_258 : decode cL_law 258 = .ok (.if_icmp .eq 803, 3) := by decide +kernel
theorem dL_law_261 : decode cL_law 261 = .ok (.iconst 0, 1) := by decide +kernel
theorem dL_law_262 : decode cL_law 262 = .ok (.ireturn, 1) := by decide +kernel
theorem dL_law_263 : decode cL_law 263 = .ok (.aload_n 1, 1) := by decide +kernel
theorem dL_law_264 : decode cL_law 264 = .ok (.aload_n 0, 1) := by decide +kernel
theorem dL_law_265 : decode cL_law 265 = .ok (.iload_n 3, 1) := by decide +kernel
theorem dL_law_266 : decode cL_law 266 = .ok (.iconst 1, 1) := by decide +kernel
theorem dL_law_267 : decode cL_law 267 = .ok (.iadd, 1) := by decide +kernel
theorem dL_law_268 : decode cL_law 268 = .ok (.iaload, 1) := by decide +kernel
theorem dL_law_269 : decode cL_law 269 = .ok (.aload_n 0, 1) := by decide +kernel
theorem dL_law_270 : decode cL_law 270 = .ok (.iload_n 3, 1) := by decide +kernel
theorem dL_law_271 : decode cL_law 271 = .ok (.iconst 2, 1) := by decide +kernel
theorem dL_law_272 : decode cL_law 272 = .ok (.iadd, 1) := by decide +kernel
theorem dL_law_273 : decode cL_law 273 = .ok (.iaload, 1) := by decide +kernel
theorem dL_law_274 : decode cL_law 274 = .ok (.aload_n 0, 1) := by decide +kernel
theorem dL_law_275 : decode cL_law 275 = .ok (.iload_n 3, 1) := by decide +kernel
theorem dL_law_276 : decode cL_law 276 = .ok (.iconst 3, 1) := by decide +kernel
theorem dL_law_277 : decode cL_law 277 = .ok (.iadd, 1) := by decide +kernel
theorem dL_law_278 : decode cL_law 278 = .ok (.iaload, 1) := by decide +kernel
theorem dL_law_279 : decode cL_law 279 = .ok (.invokevirtual 28, 3) := by decide +kernel
theorem dL_law_282 : decode cL_law 282 = .ok (.aload_n 2, 1) := by decide +kernel
theorem dL_law_283 : decode cL_law 283 = .ok (.aload_n 0, 1) := by decide +kernel
theorem dL_law_284 : decode cL_law 284 = .ok (.iload_n 3, 1) := by decide +kernel
theorem dL_law_285 : decode cL_law 285 = .ok (.iconst 1, 1) := by decide +kernel
theorem dL_law_286 : decode cL_law 286 = .ok (.iadd, 1) := by decide +kernel
theorem dL_law_287 : decode cL_law 287 = .ok (.iaload, 1) := by decide +kernel
theorem dL_law_288 : decode cL_law 288 = .ok (.aload_n 0, 1) := by decide +kernel
theorem dL_law_289 : decode cL_law 289 = .ok (.iload_n 3, 1) := by decide +kernel
theorem dL_law_290 : decode cL_law 290 = .ok (.iconst 2, 1) := by decide +kernel
theorem dL_law_291 : decode cL_law 291 = .ok (.iadd, 1) := by decide +kernel
theorem dL_law_292 : decode cL_law 292 = .ok (.iaload, 1) := by decide +kernel
theorem dL_law_293 : decode cL_law 293 = .ok (.aload_n 0, 1) := by decide +kernel
theorem dL_law_294 : decode cL_law 294 = .ok (.iload_n 3, 1) := by decide +kernel
theorem dL_law_295 : decode cL_law 295 = .ok (.iconst 3, 1) := by decide +kernel
theorem dL_law_296 : decode cL_law 296 = .ok (.iadd, 1) := by decide +kernel
theorem dL_law_297 : decode cL_law 297 = .ok (.iaload, 1) := by decide +kernel
theorem dL_law_298 : decode cL_law 298 = .ok (.invokevirtual 31, 3) := by decide +kernel
theorem dL_law_301 : decode cL_law 301 = .ok (.if_icmp .eq 760, 3) := by decide +kernel
theorem dL_law_304 : decode cL_law 304 = .ok (.iconst 0, 1) := by decide +kernel
theorem dL_law_305 : decode cL_law 305 = .ok (.ireturn, 1) := by decide +kernel
theorem dL_law_306 : decode cL_law 306 = .ok (.aload_n 1, 1) := by decide +kernel
theorem dL_law_307 : decode cL_law 307 = .ok (.aload_n 0, 1) := by decide +kernel
theorem dL_law_308 : decode cL_law 308 = .ok (.iload_n 3, 1) := by decide +kernel
theorem dL_law_309 : decode cL_law 309 = .ok (.iconst 1, 1) := by decide +kernel
theorem dL_law_310 : decode cL_law 310 = .ok (.iadd, 1) := by decide +kernel
theorem dL_law_311 : decode cL_law 311 = .ok (.iaload, 1) := by decide +kernel
theorem dL_law_312 : decode cL_law 312 = .ok (.invokevirtual 32, 3) := by decide +kernel
theorem dL_law_315 : decode cL_law 315 = .ok (.aload_n 2, 1) := by decide +kernel
theorem dL_law_316 : decode cL_law 316 = .ok (.aload_n 0, 1) := by decide +kernel
theorem dL_law_317 : decode cL_law 317 = .ok (.iload_n 3, 1) := by decide +kernel
theorem dL_law_318 : decode cL_law 318 = .ok (.iconst 1, 1) := by decide +kernel
theorem dL_law_319 : decode cL_law 319 = .ok (.iadd, 1) := by decide +kernel
theorem dL_law_320 : decode cL_law 320 = .ok (.iaload, 1) := by decide +kernel
theorem dL_law_321 : decode cL_law 321 = .ok (.invokevirtual 35, 3) := by decide +kernel
theorem dL_law_324 : decode cL_law 324 = .ok (.if_icmp .eq 737, 3) := by decide +kernel
theorem dL_law_327 : decode cL_law 327 = .ok (.iconst 0, 1) := by decide +kernel
theorem dL_law_328 : decode cL_law 328 = .ok (.ireturn, 1) := by decide +kernel
theorem dL_law_329 : decode cL_law 329 = .ok (.aload_n 1, 1) := by decide +kernel
theorem dL_law_330 : decode cL_law 330 = .ok (.aload_n 0, 1) := by decide +kernel
theorem dL_law_331 : decode cL_law 331 = .ok (.iload_n 3, 1) := by decide +kernel
theorem dL_law_332 : decode cL_law 332 = .ok (.iconst 1, 1) := by decide +kernel
theorem dL_law_333 : decode cL_law 333 = .ok (.iadd, 1) := by decide +kernel
theorem dL_law_334 : decode cL_law 334 = .ok (.iaload, 1) := by decide +kernel
theorem dL_law_335 : decode cL_law 335 = .ok (.invokevirtual 36, 3) := by decide +kernel
theorem dL_law_338 : decode cL_law 338 = .ok (.aload_n 2, 1) := by decide +kernel
theorem dL_law_339 : decode cL_law 339 = .ok (.aload_n 0, 1) := by decide +kernel
theorem dL_law_340 : decode cL_law 340 = .ok (.iload_n 3, 1) := by decide +kernel
theorem dL_law_341 : decode cL_law 341 = .ok (.iconst 1, 1) := by decide +kernel
theorem dL_law_342 : decode cL_law 342 = .ok (.iadd, 1) := by decide +kernel
theorem dL_law_343 : decode cL_law 343 = .ok (.iaload, 1) := by decide +kernel
theorem dL_law_344 : decode cL_law 344 = .ok (.invokevirtual 39, 3) := by decide +kernel
theorem dL_law_347 : decode cL_law 347 = .ok (.if_icmp .eq 714, 3) := by decide +kernel
theorem dL_law_350 : decode cL_law 350 = .ok (.iconst 0, 1) := by decide +kernel
theorem dL_law_351 : decode cL_law 351 = .ok (.ireturn, 1) := by decide +kernel
theorem dL_law_352 : decode cL_law 352 = .ok (.aload_n 1, 1) := by decide +kernel
theorem dL_law_353 : decode cL_law 353 = .ok (.aload_n 0, 1) := by decide +kernel
theorem dL_law_354 : decode cL_law 354 = .ok (.iload_n 3, 1) := by decide +kernel
theorem dL_law_355 : decode cL_law 355 = .ok (.iconst 1, 1) := by decide +kernel
theorem dL_law_356 : decode cL_law 356 = .ok (.iadd, 1) := by decide +kernel
theorem dL_law_357 : decode cL_law 357 = .ok (.iaload, 1) := by decide +kernel
theorem dL_law_358 : decode cL_law 358 = .ok (.invokevirtual 40, 3) := by decide +kernel
theorem dL_law_361 : decode cL_law 361 = .ok (.aload_n 2, 1) := by decide +kernel
theorem dL_law_362 : decode cL_law 362 = .ok (.aload_n 0, 1) := by decide +kernel
theorem dL_law_363 : decode cL_law 363 = .ok (.iload_n 3, 1) := by decide +kernel
theorem dL_law_364 : decode cL_law 364 = .ok (.iconst 1, 1) := by decide +kernel
theorem dL_law_365 : decode cL_law 365 = .ok (.iadd, 1) := by decide +kernel
theorem dL_law_366 : decode cL_law 366 = .ok (.iaload, 1) := by decide +kernel
theorem dL_law_367 : decode cL_law 367 = .ok (.invokevirtual 43, 3) := by decide +kernel
theorem dL_law_370 : decode cL_law 370 = .ok (.if_icmp .eq 691, 3) := by decide +kernel
theorem dL_law_373 : decode cL_law 373 = .ok (.iconst 0, 1) := by decide +kernel
theorem dL_law_374 : decode cL_law 374 = .ok (.ireturn, 1) := by decide +kernel
theorem dL_law_375 : decode cL_law 375 = .ok (.aload_n 1, 1) := by decide +kernel
theorem dL_law_376 : decode cL_law 376 = .ok (.aload_n 0, 1) := by decide +kernel
theorem dL_law_377 : decode cL_law 377 = .ok (.iload_n 3, 1) := by decide +kernel
theorem dL_law_378 : decode cL_law 378 = .ok (.iconst 1, 1) := by decide +kernel
theorem dL_law_379 : decode cL_law 379 = .ok (.iadd, 1) := by decide +kernel
theorem dL_law_380 : decode cL_law 380 = .ok (.iaload, 1) := by decide +kernel
theorem dL_law_381 : decode cL_law 381 = .ok (.aload_n 0, 1) := by decide +kernel
theorem dL_law_382 : decode cL_law 382 = .ok (.iload_n 3, 1) := by decide +kernel
theorem dL_law_383 : decode cL_law 383 = .ok (.iconst 2, 1) := by decide +kernel
theorem dL_law_384 : decode cL_law 384 = .ok (.iadd, 1) := by decide +kernel
theorem dL_law_385 : decode cL_law 385 = .ok (.iaload, 1) := by decide +kernel
theorem dL_law_386 : decode cL_law 386 = .ok (.invokevirtual 44, 3) := by decide +kernel
theorem dL_law_389 : decode cL_law 389 = .ok (.aload_n 2, 1) := by decide +kernel
theorem dL_law_390 : decode cL_law 390 = .ok (.aload_n 0, 1) := by decide +kernel
theorem dL_law_391 : decode cL_law 391 = .ok (.iload_n 3, 1) := by decide +kernel
theorem dL_law_392 : decode cL_law 392 = .ok (.iconst 1, 1) := by decide +kernel
theorem dL_law_393 : decode cL_law 393 = .ok (.iadd, 1) := by decide +kernel
theorem dL_law_394 : decode cL_law 394 = .ok (.iaload, 1) := by decide +kernel
theorem dL_law_395 : decode cL_law 395 = .ok (.aload_n 0, 1) := by decide +kernel
theorem dL_law_396 : decode cL_law 396 = .ok (.iload_n 3, 1) := by decide +kernel
theorem dL_law_397 : decode cL_law 397 = .ok (.iconst 2, 1) := by decide +kernel
theorem dL_law_398 : decode cL_law 398 = .ok (.iadd, 1) := by decide +kernel
theorem dL_law_399 : decode cL_law 399 = .ok (.iaload, 1) := by decide +kernel
theorem dL_law_400 : decode cL_law 400 = .ok (.invokevirtual 47, 3) := by decide +kernel
theorem dL_law_403 : decode cL_law 403 = .ok (.if_icmp .eq 658, 3) := by decide +kernel
theorem dL_law_406 : decode cL_law 406 = .ok (.iconst 0, 1) := by decide +kernel
theorem dL_law_407 : decode cL_law 407 = .ok (.ireturn, 1) := by decide +kernel
theorem dL_law_408 : decode cL_law 408 = .ok (.aload_n 1, 1) := by decide +kernel
theorem dL_law_409 : decode cL_law 409 = .ok (.aload_n 0, 1) := by decide +kernel
theorem dL_law_410 : decode cL_law 410 = .ok (.iload_n 3, 1) := by decide +kernel
theorem dL_law_411 : decode cL_law 411 = .ok (.iconst 1, 1) := by decide +kernel
theorem dL_law_412 : decode cL_law 412 = .ok (.iadd, 1) := by decide +kernel
theorem dL_law_413 : decode cL_law 413 = .ok (.iaload, 1) := by decide +kernel
theorem dL_law_414 : decode cL_law 414 = .ok (.aload_n 0, 1) := by decide +kernel
theorem dL_law_415 : decode cL_law 415 = .ok (.iload_n 3, 1) := by decide +kernel
theorem dL_law_416 : decode cL_law 416 = .ok (.iconst 2, 1) := by decide +kernel
theorem dL_law_417 : decode cL_law 417 = .ok (.iadd, 1) := by decide +kernel
theorem dL_law_418 : decode cL_law 418 = .ok (.iaload, 1) := by decide +kernel
theorem dL_law_419 : decode cL_law 419 = .ok (.aload_n 0, 1) := by decide +kernel
theorem dL_law_420 : decode cL_law 420 = .ok (.iload_n 3, 1) := by decide +kernel
theorem dL_law_421 : decode cL_law 421 = .ok (.iconst 3, 1) := by decide +kernel
theorem dL_law_422 : decode cL_law 422 = .ok (.iadd, 1) := by decide +kernel
theorem dL_law_423 : decode cL_law 423 = .ok (.iaload, 1) := by decide +kernel
theorem dL_law_424 : decode cL_law 424 = .ok (.invokevirtual 48, 3) := by decide +kernel
theorem dL_law_427 : decode cL_law 427 = .ok (.aload_n 2, 1) := by decide +kernel
theorem dL_law_428 : decode cL_law 428 = .ok (.aload_n 0, 1) := by decide +kernel
theorem dL_law_429 : decode cL_law 429 = .ok (.iload_n 3, 1) := by decide +kernel
theorem dL_law_430 : decode cL_law 430 = .ok (.iconst 1, 1) := by decide +kernel
theorem dL_law_431 : decode cL_law 431 = .ok (.iadd, 1) := by decide +kernel
theorem dL_law_432 : decode cL_law 432 = .ok (.iaload, 1) := by decide +kernel
theorem dL_law_433 : decode cL_law 433 = .ok (.aload_n 0, 1) := by decide +kernel
theorem dL_law_434 : decode cL_law 434 = .ok (.iload_n 3, 1) := by decide +kernel
theorem dL_law_435 : decode cL_law 435 = .ok (.iconst 2, 1) := by decide +kernel
theorem dL_law_436 : decode cL_law 436 = .ok (.iadd, 1) := by decide +kernel
theorem dL_law_437 : decode cL_law 437 = .ok (.iaload, 1) := by decide +kernel
theorem dL_law_438 : decode cL_law 438 = .ok (.aload_n 0, 1) := by decide +kernel
theorem dL_law_439 : decode cL_law 439 = .ok (.iload_n 3, 1) := by decide +kernel
theorem dL_law_440 : decode cL_law 440 = .ok (.iconst 3, 1) := by decide +kernel
theorem dL_law_441 : decode cL_law 441 = .ok (.iadd, 1) := by decide +kernel
theorem dL_law_442 : decode cL_law 442 = .ok (.iaload, 1) := by decide +kernel
theorem dL_law_443 : decode cL_law 443 = .ok (.invokevirtual 51, 3) := by decide +kernel
theorem dL_law_446 : decode cL_law 446 = .ok (.if_icmp .eq 615, 3) := by decide +kernel
theorem dL_law_449 : decode cL_law 449 = .ok (.iconst 0, 1) := by decide +kernel
theorem dL_law_450 : decode cL_law 450 = .ok (.ireturn, 1) := by decide +kernel
theorem dL_law_451 : decode cL_law 451 = .ok (.aload_n 1, 1) := by decide +kernel
theorem dL_law_452 : decode cL_law 452 = .ok (.aload_n 0, 1) := by decide +kernel
theorem dL_law_453 : decode cL_law 453 = .ok (.iload_n 3, 1) := by decide +kernel
theorem dL_law_454 : decode cL_law 454 = .ok (.iconst 1, 1) := by decide +kernel
theorem dL_law_455 : decode cL_law 455 = .ok (.iadd, 1) := by decide +kernel
theorem dL_law_456 : decode cL_law 456 = .ok (.iaload, 1) := by decide +kernel
theorem dL_law_457 : decode cL_law 457 = .ok (.aload_n 0, 1) := by decide +kernel
theorem dL_law_458 : decode cL_law 458 = .ok (.iload_n 3, 1) := by decide +kernel
theorem dL_law_459 : decode cL_law 459 = .ok (.iconst 2, 1) := by decide +kernel
theorem dL_law_460 : decode cL_law 460 = .ok (.iadd, 1) := by decide +kernel
theorem dL_law_461 : decode cL_law 461 = .ok (.iaload, 1) := by decide +kernel
theorem dL_law_462 : decode cL_law 462 = .ok (.aload_n 0, 1) := by decide +kernel
theorem dL_law_463 : decode cL_law 463 = .ok (.iload_n 3, 1) := by decide +kernel
theorem dL_law_464 : decode cL_law 464 = .ok (.iconst 3, 1) := by decide +kernel
theorem dL_law_465 : decode cL_law 465 = .ok (.iadd, 1) := by decide +kernel
theorem dL_law_466 : decode cL_law 466 = .ok (.iaload, 1) := by decide +kernel
theorem dL_law_467 : decode cL_law 467 = .ok (.aload_n 0, 1) := by decide +kernel
theorem dL_law_468 : decode cL_law 468 = .ok (.iload_n 3, 1) := by decide +kernel
theorem dL_law_469 : decode cL_law 469 = .ok (.iconst 4, 1) := by decide +kernel
theorem dL_law_470 : decode cL_law 470 = .ok (.iadd, 1) := by decide +kernel
theorem dL_law_471 : decode cL_law 471 = .ok (.iaload, 1) := by decide +kernel
theorem dL_law_472 : decode cL_law 472 = .ok (.invokevirtual 52, 3) := by decide +kernel
theorem dL_law_475 : decode cL_law 475 = .ok (.aload_n 2, 1) := by decide +kernel
theorem dL_law_476 : decode cL_law 476 = .ok (.aload_n 0, 1) := by decide +kernel
theorem dL_law_477 : decode cL_law 477 = .ok (.iload_n 3, 1) := by decide +kernel
theorem dL_law_478 : decode cL_law 478 = .ok (.iconst 1, 1) := by decide +kernel
theorem dL_law_479 : decode cL_law 479 = .ok (.iadd, 1) := by decide +kernel
theorem dL_law_480 : decode cL_law 480 = .ok (.iaload, 1) := by decide +kernel
theorem dL_law_481 : decode cL_law 481 = .ok (.aload_n 0, 1) := by decide +kernel
theorem dL_law_482 : decode cL_law 482 = .ok (.iload_n 3, 1) := by decide +kernel
theorem dL_law_483 : decode cL_law 483 = .ok (.iconst 2, 1) := by decide +kernel
theorem dL_law_484 : decode cL_law 484 = .ok (.iadd, 1) := by decide +kernel
theorem dL_law_485 : decode cL_law 485 = .ok (.iaload, 1) := by decide +kernel
theorem dL_law_486 : decode cL_law 486 = .ok (.aload_n 0, 1) := by decide +kernel
theorem dL_law_487 : decode cL_law 487 = .ok (.iload_n 3, 1) := by decide +kernel
theorem dL_law_488 : decode cL_law 488 = .ok (.iconst 3, 1) := by decide +kernel
theorem dL_law_489 : decode cL_law 489 = .ok (.iadd, 1) := by decide +kernel
theorem dL_law_490 : decode cL_law 490 = .ok (.iaload, 1) := by decide +kernel
theorem dL_law_491 : decode cL_law 491 = .ok (.aload_n 0, 1) := by decide +kernel
theorem dL_law_492 : decode cL_law 492 = .ok (.iload_n 3, 1) := by decide +kernel
theorem dL_law_493 : decode cL_law 493 = .ok (.iconst 4, 1) := by decide +kernel
theorem dL_law_494 : decode cL_law 494 = .ok (.iadd, 1) := by decide +kernel
theorem dL_law_495 : decode cL_law 495 = .ok (.iaload, 1) := by decide +kernel
theorem dL_law_496 : decode cL_law 496 = .ok (.invokevirtual 56, 3) := by decide +kernel
theorem dL_law_499 : decode cL_law 499 = .ok (.if_icmp .eq 562, 3) := by decide +kernel
theorem dL_law_502 : decode cL_law 502 = .ok (.iconst 0, 1) := by decide +kernel
theorem dL_law_503 : decode cL_law 503 = .ok (.ireturn, 1) := by decide +kernel
theorem dL_law_504 : decode cL_law 504 = .ok (.aload_n 1, 1) := by decide +kernel
theorem dL_law_505 : decode cL_law 505 = .ok (.aload_n 0, 1) := by decide +kernel
theorem dL_law_506 : decode cL_law 506 = .ok (.iload_n 3, 1) := by decide +kernel
theorem dL_law_507 : decode cL_law 507 = .ok (.iconst 1, 1) := by decide +kernel
theorem dL_law_508 : decode cL_law 508 = .ok (.iadd, 1) := by decide +kernel
theorem dL_law_509 : decode cL_law 509 = .ok (.iaload, 1) := by decide +kernel
theorem dL_law_510 : decode cL_law 510 = .ok (.aload_n 0, 1) := by decide +kernel
theorem dL_law_511 : decode cL_law 511 = .ok (.iload_n 3, 1) := by decide +kernel
theorem dL_law_512 : decode cL_law 512 = .ok (.iconst 2, 1) := by decide +kernel
theorem dL_law_513 : decode cL_law 513 = .ok (.iadd, 1) := by decide +kernel
theorem dL_law_514 : decode cL_law 514 = .ok (.iaload, 1) := by decide +kernel
theorem dL_law_515 : decode cL_law 515 = .ok (.invokevirtual 57, 3) := by decide +kernel
theorem dL_law_518 : decode cL_law 518 = .ok (.aload_n 2, 1) := by decide +kernel
theorem dL_law_519 : decode cL_law 519 = .ok (.aload_n 0, 1) := by decide +kernel
theorem dL_law_520 : decode cL_law 520 = .ok (.iload_n 3, 1) := by decide +kernel
theorem dL_law_521 : decode cL_law 521 = .ok (.iconst 1, 1) := by decide +kernel
theorem dL_law_522 : decode cL_law 522 = .ok (.iadd, 1) := by decide +kernel
theorem dL_law_523 : decode cL_law 523 = .ok (.iaload, 1) := by decide +kernel
theorem dL_law_524 : decode cL_law 524 = .ok (.aload_n 0, 1) := by decide +kernel
theorem dL_law_525 : decode cL_law 525 = .ok (.iload_n 3, 1) := by decide +kernel
theorem dL_law_526 : decode cL_law 526 = .ok (.iconst 2, 1) := by decide +kernel
theorem dL_law_527 : decode cL_law 527 = .ok (.iadd, 1) := by decide +kernel
theorem dL_law_528 : decode cL_law 528 = .ok (.iaload, 1) := by decide +kernel
theorem dL_law_529 : decode cL_law 529 = .ok (.invokevirtual 60, 3) := by decide +kernel
theorem dL_law_532 : decode cL_law 532 = .ok (.if_icmp .eq 529, 3) := by decide +kernel
theorem dL_law_535 : decode cL_law 535 = .ok (.iconst 0, 1) := by decide +kernel
theorem dL_law_536 : decode cL_law 536 = .ok (.ireturn, 1) := by decide +kernel
theorem dL_law_537 : decode cL_law 537 = .ok (.aload_n 1, 1) := by decide +kernel
theorem dL_law_538 : decode cL_law 538 = .ok (.aload_n 0, 1) := by decide +kernel
theorem dL_law_539 : decode cL_law 539 = .ok (.iload_n 3, 1) := by decide +kernel
theorem dL_law_540 : decode cL_law 540 = .ok (.iconst 1, 1) := by decide +kernel
theorem dL_law_541 : decode cL_law 541 = .ok (.iadd, 1) := by decide +kernel
theorem dL_law_542 : decode cL_law 542 = .ok (.iaload, 1) := by decide +kernel
theorem dL_law_543 : decode cL_law 543 = .ok (.invokevirtual 61, 3) := by decide +kernel
theorem dL_law_546 : decode cL_law 546 = .ok (.aload_n 2, 1) := by decide +kernel
theorem dL_law_547 : decode cL_law 547 = .ok (.aload_n 0, 1) := by decide +kernel
theorem dL_law_548 : decode cL_law 548 = .ok (.iload_n 3, 1) := by decide +kernel
theorem dL_law_549 : decode cL_law 549 = .ok (.iconst 1, 1) := by decide +kernel
theorem dL_law_550 : decode cL_law 550 = .ok (.iadd, 1) := by decide +kernel
theorem dL_law_551 : decode cL_law 551 = .ok (.iaload, 1) := by decide +kernel
theorem dL_law_552 : decode cL_law 552 = .ok (.invokevirtual 64, 3) := by decide +kernel
theorem dL_law_555 : decode cL_law 555 = .ok (.if_icmp .eq 506, 3) := by decide +kernel
theorem dL_law_558 : decode cL_law 558 = .ok (.iconst 0, 1) := by decide +kernel
theorem dL_law_559 : decode cL_law 559 = .ok (.ireturn, 1) := by decide +kernel
theorem dL_law_560 : decode cL_law 560 = .ok (.aload_n 1, 1) := by decide +kernel
theorem dL_law_561 : decode cL_law 561 = .ok (.aload_n 0, 1) := by decide +kernel
theorem dL_law_562 : decode cL_law 562 = .ok (.iload_n 3, 1) := by decide +kernel
theorem dL_law_563 : decode cL_law 563 = .ok (.iconst 1, 1) := by decide +kernel
theorem dL_law_564 : decode cL_law 564 = .ok (.iadd, 1) := by decide +kernel
theorem dL_law_565 : decode cL_law 565 = .ok (.iaload, 1) := by decide +kernel
theorem dL_law_566 : decode cL_law 566 = .ok (.aload_n 0, 1) := by decide +kernel
theorem dL_law_567 : decode cL_law 567 = .ok (.iload_n 3, 1) := by decide +kernel
theorem dL_law_568 : decode cL_law 568 = .ok (.iconst 2, 1) := by decide +kernel
theorem dL_law_569 : decode cL_law 569 = .ok (.iadd, 1) := by decide +kernel
theorem dL_law_570 : decode cL_law 570 = .ok (.iaload, 1) := by decide +kernel
theorem dL_law_571 : decode cL_law 571 = .ok (.aload_n 0, 1) := by decide +kernel
theorem dL_law_572 : decode cL_law 572 = .ok (.iload_n 3, 1) := by decide +kernel
theorem dL_law_573 : decode cL_law 573 = .ok (.iconst 3, 1) := by decide +kernel
theorem dL_law_574 : decode cL_law 574 = .ok (.iadd, 1) := by decide +kernel
theorem dL_law_575 : decode cL_law 575 = .ok (.iaload, 1) := by decide +kernel
theorem dL_law_576 : decode cL_law 576 = .ok (.invokevirtual 65, 3) := by decide +kernel
theorem dL_law_579 : decode cL_law 579 = .ok (.aload_n 2, 1) := by decide +kernel
theorem dL_law_580 : decode cL_law 580 = .ok (.aload_n 0, 1) := by decide +kernel
theorem dL_law_581 : decode cL_law 581 = .ok (.iload_n 3, 1) := by decide +kernel
theorem dL_law_582 : decode cL_law 582 = .ok (.iconst 1, 1) := by decide +kernel
theorem dL_law_583 : decode cL_law 583 = .ok (.iadd, 1) := by decide +kernel
theorem dL_law_584 : decode cL_law 584 = .ok (.iaload, 1) := by decide +kernel
theorem dL_law_585 : decode cL_law 585 = .ok (.aload_n 0, 1) := by decide +kernel
theorem dL_law_586 : decode cL_law 586 = .ok (.iload_n 3, 1) := by decide +kernel
theorem dL_law_587 : decode cL_law 587 = .ok (.iconst 2, 1) := by decide +kernel
theorem dL_law_588 : decode cL_law 588 = .ok (.iadd, 1) := by decide +kernel
theorem dL_law_589 : decode cL_law 589 = .ok (.iaload, 1) := by decide +kernel
theorem dL_law_590 : decode cL_law 590 = .ok (.aload_n 0, 1) := by decide +kernel
theorem dL_law_591 : decode cL_law 591 = .ok (.iload_n 3, 1) := by decide +kernel
theorem dL_law_592 : decode cL_law 592 = .ok (.iconst 3, 1) := by decide +kernel
theorem dL_law_593 : decode cL_law 593 = .ok (.iadd, 1) := by decide +kernel
theorem dL_law_594 : decode cL_law 594 = .ok (.iaload, 1) := by decide +kernel
theorem dL_law_595 : decode cL_law 595 = .ok (.invokevirtual 68, 3) := by decide +kernel
theorem dL_law_598 : decode cL_law 598 = .ok (.if_icmp .eq 463, 3) := by decide +kernel
theorem dL_law_601 : decode cL_law 601 = .ok (.iconst 0, 1) := by decide +kernel
theorem dL_law_602 : decode cL_law 602 = .ok (.ireturn, 1) := by decide +kernel
theorem dL_law_603 : decode cL_law 603 = .ok (.aload_n 1, 1) := by decide +kernel
theorem dL_law_604 : decode cL_law 604 = .ok (.aload_n 0, 1) := by decide +kernel
theorem dL_law_605 : decode cL_law 605 = .ok (.iload_n 3, 1) := by decide +kernel
theorem dL_law_606 : decode cL_law 606 = .ok (.iconst 1, 1) := by decide +kernel
theorem dL_law_607 : decode cL_law 607 = .ok (.iadd, 1) := by decide +kernel
theorem dL_law_608 : decode cL_law 608 = .ok (.iaload, 1) := by decide +kernel
theorem dL_law_609 : decode cL_law 609 = .ok (.aload_n 0, 1) := by decide +kernel
theorem dL_law_610 : decode cL_law 610 = .ok (.iload_n 3, 1) := by decide +kernel
theorem dL_law_611 : decode cL_law 611 = .ok (.iconst 2, 1) := by decide +kernel
theorem dL_law_612 : decode cL_law 612 = .ok (.iadd, 1) := by decide +kernel
theorem dL_law_613 : decode cL_law 613 = .ok (.iaload, 1) := by decide +kernel
theorem dL_law_614 : decode cL_law 614 = .ok (.invokevirtual 69, 3) := by decide +kernel
theorem dL_law_617 : decode cL_law 617 = .ok (.aload_n 2, 1) := by decide +kernel
theorem dL_law_618 : decode cL_law 618 = .ok (.aload_n 0, 1) := by decide +kernel
theorem dL_law_619 : decode cL_law 619 = .ok (.iload_n 3, 1) := by decide +kernel
theorem dL_law_620 : decode cL_law 620 = .ok (.iconst 1, 1) := by decide +kernel
theorem dL_law_621 : decode cL_law 621 = .ok (.iadd, 1) := by decide +kernel
theorem dL_law_622 : decode cL_law 622 = .ok (.iaload, 1) := by decide +kernel
theorem dL_law_623 : decode cL_law 623 = .ok (.aload_n 0, 1) := by decide +kernel
theorem dL_law_624 : decode cL_law 624 = .ok (.iload_n 3, 1) := by decide +kernel
theorem dL_law_625 : decode cL_law 625 = .ok (.iconst 2, 1) := by decide +kernel
theorem dL_law_626 : decode cL_law 626 = .ok (.iadd, 1) := by decide +kernel
theorem dL_law_627 : decode cL_law 627 = .ok (.iaload, 1) := by decide +kernel
theorem dL_law_628 : decode cL_law 628 = .ok (.invokevirtual 72, 3) := by decide +kernel
theorem dL_law_631 : decode cL_law 631 = .ok (.if_icmp .eq 430, 3) := by decide +kernel
theorem dL_law_634 : decode cL_law 634 = .ok (.iconst 0, 1) := by decide +kernel
theorem dL_law_635 : decode cL_law 635 = .ok (.ireturn, 1) := by decide +kernel
theorem dL_law_636 : decode cL_law 636 = .ok (.aload_n 1, 1) := by decide +kernel
theorem dL_law_637 : decode cL_law 637 = .ok (.aload_n 0, 1) := by decide +kernel
theorem dL_law_638 : decode cL_law 638 = .ok (.iload_n 3, 1) := by decide +kernel
theorem dL_law_639 : decode cL_law 639 = .ok (.iconst 1, 1) := by decide +kernel
theorem dL_law_640 : decode cL_law 640 = .ok (.iadd, 1) := by decide +kernel
theorem dL_law_641 : decode cL_law 641 = .ok (.iaload, 1) := by decide +kernel
theorem dL_law_642 : decode cL_law 642 = .ok (.aload_n 0, 1) := by decide +kernel
theorem dL_law_643 : decode cL_law 643 = .ok (.iload_n 3, 1) := by decide +kernel
theorem dL_law_644 : decode cL_law 644 = .ok (.iconst 2, 1) := by decide +kernel
theorem dL_law_645 : decode cL_law 645 = .ok (.iadd, 1) := by decide +kernel
theorem dL_law_646 : decode cL_law 646 = .ok (.iaload, 1) := by decide +kernel
theorem dL_law_647 : decode cL_law 647 = .ok (.invokevirtual 73, 3) := by decide +kernel
theorem dL_law_650 : decode cL_law 650 = .ok (.aload_n 2, 1) := by decide +kernel
theorem dL_law_651 : decode cL_law 651 = .ok (.aload_n 0, 1) := by decide +kernel
theorem dL_law_652 : decode cL_law 652 = .ok (.iload_n 3, 1) := by decide +kernel
theorem dL_law_653 : decode cL_law 653 = .ok (.iconst 1, 1) := by decide +kernel
theorem dL_law_654 : decode cL_law 654 = .ok (.iadd, 1) := by decide +kernel
theorem dL_law_655 : decode cL_law 655 = .ok (.iaload, 1) := by decide +kernel
theorem dL_law_656 : decode cL_law 656 = .ok (.aload_n 0, 1) := by decide +kernel
theorem dL_law_657 : decode cL_law 657 = .ok (.iload_n 3, 1) := by decide +kernel
theorem dL_law_658 : decode cL_law 658 = .ok (.iconst 2, 1) := by decide +kernel
theorem dL_law_659 : decode cL_law 659 = .ok (.iadd, 1) := by decide +kernel
theorem dL_law_660 : decode cL_law 660 = .ok (.iaload, 1) := by decide +kernel
theorem dL_law_661 : decode cL_law 661 = .ok (.invokevirtual 76, 3) := by decide +kernel
theorem dL_law_664 : decode cL_law 664 = .ok (.if_icmp .eq 397, 3) := by decide +kernel
theorem dL_law_667 : decode cL_law 667 = .ok (.iconst 0, 1) := by decide +kernel
theorem dL_law_668 : decode cL_law 668 = .ok (.ireturn, 1) := by decide +kernel
theorem dL_law_669 : decode cL_law 669 = .ok (.aload_n 1, 1) := by decide +kernel
theorem dL_law_670 : decode cL_law 670 = .ok (.aload_n 0, 1) := by decide +kernel
theorem dL_law_671 : decode cL_law 671 = .ok (.iload_n 3, 1) := by decide +kernel
theorem dL_law_672 : decode cL_law 672 = .ok (.iconst 1, 1) := by decide +kernel
theorem dL_law_673 : decode cL_law 673 = .ok (.iadd, 1) := by decide +kernel
theorem dL_law_674 : decode cL_law 674 = .ok (.iaload, 1) := by decide +kernel
theorem dL_law_675 : decode cL_law 675 = .ok (.invokevirtual 77, 3) := by decide +kernel
theorem dL_law_678 : decode cL_law 678 = .ok (.aload_n 2, 1) := by decide +kernel
theorem dL_law_679 : decode cL_law 679 = .ok (.aload_n 0, 1) := by decide +kernel
theorem dL_law_680 : decode cL_law 680 = .ok (.iload_n 3, 1) := by decide +kernel
theorem dL_law_681 : decode cL_law 681 = .ok (.iconst 1, 1) := by decide +kernel
theorem dL_law_682 : decode cL_law 682 = .ok (.iadd, 1) := by decide +kernel
theorem dL_law_683 : decode cL_law 683 = .ok (.iaload, 1) := by decide +kernel
theorem dL_law_684 : decode cL_law 684 = .ok (.invokevirtual 80, 3) := by decide +kernel
theorem dL_law_687 : decode cL_law 687 = .ok (.if_icmp .eq 374, 3) := by decide +kernel
theorem dL_law_690 : decode cL_law 690 = .ok (.iconst 0, 1) := by decide +kernel
theorem dL_law_691 : decode cL_law 691 = .ok (.ireturn, 1) := by decide +kernel
theorem dL_law_692 : decode cL_law 692 = .ok (.aload_n 1, 1) := by decide +kernel
theorem dL_law_693 : decode cL_law 693 = .ok (.aload_n 0, 1) := by decide +kernel
theorem dL_law_694 : decode cL_law 694 = .ok (.iload_n 3, 1) := by decide +kernel
theorem dL_law_695 : decode cL_law 695 = .ok (.iconst 1, 1) := by decide +kernel
theorem dL_law_696 : decode cL_law 696 = .ok (.iadd, 1) := by decide +kernel
theorem dL_law_697 : decode cL_law 697 = .ok (.iaload, 1) := by decide +kernel
theorem dL_law_698 : decode cL_law 698 = .ok (.aload_n 0, 1) := by decide +kernel
theorem dL_law_699 : decode cL_law 699 = .ok (.iload_n 3, 1) := by decide +kernel
theorem dL_law_700 : decode cL_law 700 = .ok (.iconst 2, 1) := by decide +kernel
theorem dL_law_701 : decode cL_law 701 = .ok (.iadd, 1) := by decide +kernel
theorem dL_law_702 : decode cL_law 702 = .ok (.iaload, 1) := by decide +kernel
theorem dL_law_703 : decode cL_law 703 = .ok (.invokevirtual 81, 3) := by decide +kernel
theorem dL_law_706 : decode cL_law 706 = .ok (.aload_n 2, 1) := by decide +kernel
theorem dL_law_707 : decode cL_law 707 = .ok (.aload_n 0, 1) := by decide +kernel
theorem dL_law_708 : decode cL_law 708 = .ok (.iload_n 3, 1) := by decide +kernel
theorem dL_law_709 : decode cL_law 709 = .ok (.iconst 1, 1) := by decide +kernel
theorem dL_law_710 : decode cL_law 710 = .ok (.iadd, 1) := by decide +kernel
theorem dL_law_711 : decode cL_law 711 = .ok (.iaload, 1) := by decide +kernel
theorem dL_law_712 : decode cL_law 712 = .ok (.aload_n 0, 1) := by decide +kernel
theorem dL_law_713 : decode cL_law 713 = .ok (.iload_n 3, 1) := by decide +kernel
theorem dL_law_714 : decode cL_law 714 = .ok (.iconst 2, 1) := by decide +kernel
theorem dL_law_715 : decode cL_law 715 = .ok (.iadd, 1) := by decide +kernel
theorem dL_law_716 : decode cL_law 716 = .ok (.iaload, 1) := by decide +kernel
theorem dL_law_717 : decode cL_law 717 = .ok (.invokevirtual 84, 3) := by decide +kernel
theorem dL_law_720 : decode cL_law 720 = .ok (.if_icmp .eq 341, 3) := by decide +kernel
theorem dL_law_723 : decode cL_law 723 = .ok (.iconst 0, 1) := by decide +kernel
theorem dL_law_724 : decode cL_law 724 = .ok (.ireturn, 1) := by decide +kernel
theorem dL_law_725 : decode cL_law 725 = .ok (.aload_n 1, 1) := by decide +kernel
theorem dL_law_726 : decode cL_law 726 = .ok (.aload_n 0, 1) := by decide +kernel
theorem dL_law_727 : decode cL_law 727 = .ok (.iload_n 3, 1) := by decide +kernel
theorem dL_law_728 : decode cL_law 728 = .ok (.iconst 1, 1) := by decide +kernel
theorem dL_law_729 : decode cL_law 729 = .ok (.iadd, 1) := by decide +kernel
theorem dL_law_730 : decode cL_law 730 = .ok (.iaload, 1) := by decide +kernel
theorem dL_law_731 : decode cL_law 731 = .ok (.aload_n 0, 1) := by decide +kernel
theorem dL_law_732 : decode cL_law 732 = .ok (.iload_n 3, 1) := by decide +kernel
theorem dL_law_733 : decode cL_law 733 = .ok (.iconst 2, 1) := by decide +kernel
theorem dL_law_734 : decode cL_law 734 = .ok (.iadd, 1) := by decide +kernel
theorem dL_law_735 : decode cL_law 735 = .ok (.iaload, 1) := by decide +kernel
theorem dL_law_736 : decode cL_law 736 = .ok (.aload_n 0, 1) := by decide +kernel
theorem dL_law_737 : decode cL_law 737 = .ok (.iload_n 3, 1) := by decide +kernel
theorem dL_law_738 : decode cL_law 738 = .ok (.iconst 3, 1) := by decide +kernel
theorem dL_law_739 : decode cL_law 739 = .ok (.iadd, 1) := by decide +kernel
theorem dL_law_740 : decode cL_law 740 = .ok (.iaload, 1) := by decide +kernel
theorem dL_law_741 : decode cL_law 741 = .ok (.invokevirtual 85, 3) := by decide +kernel
theorem dL_law_744 : decode cL_law 744 = .ok (.aload_n 2, 1) := by decide +kernel
theorem dL_law_745 : decode cL_law 745 = .ok (.aload_n 0, 1) := by decide +kernel
theorem dL_law_746 : decode cL_law 746 = .ok (.iload_n 3, 1) := by decide +kernel
theorem dL_law_747 : decode cL_law 747 = .ok (.iconst 1, 1) := by decide +kernel
theorem dL_law_748 : decode cL_law 748 = .ok (.iadd, 1) := by decide +kernel
theorem dL_law_749 : decode cL_law 749 = .ok (.iaload, 1) := by decide +kernel
theorem dL_law_750 : decode cL_law 750 = .ok (.aload_n 0, 1) := by decide +kernel
theorem dL_law_751 : decode cL_law 751 = .ok (.iload_n 3, 1) := by decide +kernel
theorem dL_law_752 : decode cL_law 752 = .ok (.iconst 2, 1) := by decide +kernel
theorem dL_law_753 : decode cL_law 753 = .ok (.iadd, 1) := by decide +kernel
theorem dL_law_754 : decode cL_law 754 = .ok (.iaload, 1) := by decide +kernel
theorem dL_law_755 : decode cL_law 755 = .ok (.aload_n 0, 1) := by decide +kernel
theorem dL_law_756 : decode cL_law 756 = .ok (.iload_n 3, 1) := by decide +kernel
theorem dL_law_757 : decode cL_law 757 = .ok (.iconst 3, 1) := by decide +kernel
theorem dL_law_758 : decode cL_law 758 = .ok (.iadd, 1) := by decide +kernel
theorem dL_law_759 : decode cL_law 759 = .ok (.iaload, 1) := by decide +kernel
theorem dL_law_760 : decode cL_law 760 = .ok (.invokevirtual 88, 3) := by decide +kernel
theorem dL_law_763 : decode cL_law 763 = .ok (.if_icmp .eq 298, 3) := by decide +kernel
theorem dL_law_766 : decode cL_law 766 = .ok (.iconst 0, 1) := by decide +kernel
theorem dL_law_767 : decode cL_law 767 = .ok (.ireturn, 1) := by decide +kernel
theorem dL_law_768 : decode cL_law 768 = .ok (.aload_n 1, 1) := by decide +kernel
theorem dL_law_769 : decode cL_law 769 = .ok (.aload_n 0, 1) := by decide +kernel
theorem dL_law_770 : decode cL_law 770 = .ok (.iload_n 3, 1) := by decide +kernel
theorem dL_law_771 : decode cL_law 771 = .ok (.iconst 1, 1) := by decide +kernel
theorem dL_law_772 : decode cL_law 772 = .ok (.iadd, 1) := by decide +kernel
theorem dL_law_773 : decode cL_law 773 = .ok (.iaload, 1) := by decide +kernel
theorem dL_law_774 : decode cL_law 774 = .ok (.invokevirtual 89, 3) := by decide +kernel
theorem dL_law_777 : decode cL_law 777 = .ok (.aload_n 2, 1) := by decide +kernel
theorem dL_law_778 : decode cL_law 778 = .ok (.aload_n 0, 1) := by decide +kernel
theorem dL_law_779 : decode cL_law 779 = .ok (.iload_n 3, 1) := by decide +kernel
theorem dL_law_780 : decode cL_law 780 = .ok (.iconst 1, 1) := by decide +kernel
theorem dL_law_781 : decode cL_law 781 = .ok (.iadd, 1) := by decide +kernel
theorem dL_law_782 : decode cL_law 782 = .ok (.iaload, 1) := by decide +kernel
theorem dL_law_783 : decode cL_law 783 = .ok (.invokevirtual 92, 3) := by decide +kernel
theorem dL_law_786 : decode cL_law 786 = .ok (.if_icmp .eq 275, 3) := by decide +kernel
theorem dL_law_789 : decode cL_law 789 = .ok (.iconst 0, 1) := by decide +kernel
theorem dL_law_790 : decode cL_law 790 = .ok (.ireturn, 1) := by decide +kernel
theorem dL_law_791 : decode cL_law 791 = .ok (.aload_n 1, 1) := by decide +kernel
theorem dL_law_792 : decode cL_law 792 = .ok (.aload_n 0, 1) := by decide +kernel
theorem dL_law_793 : decode cL_law 793 = .ok (.iload_n 3, 1) := by decide +kernel
theorem dL_law_794 : decode cL_law 794 = .ok (.iconst 1, 1) := by decide +kernel
theorem dL_law_795 : decode cL_law 795 = .ok (.iadd, 1) := by decide +kernel
theorem dL_law_796 : decode cL_law 796 = .ok (.iaload, 1) := by decide +kernel
theorem dL_law_797 : decode cL_law 797 = .ok (.invokevirtual 93, 3) := by decide +kernel
theorem dL_law_800 : decode cL_law 800 = .ok (.aload_n 2, 1) := by decide +kernel
theorem dL_law_801 : decode cL_law 801 = .ok (.aload_n 0, 1) := by decide +kernel
theorem dL_law_802 : decode cL_law 802 = .ok (.iload_n 3, 1) := by decide +kernel
theorem dL_law_803 : decode cL_law 803 = .ok (.iconst 1, 1) := by decide +kernel
theorem dL_law_804 : decode cL_law 804 = .ok (.iadd, 1) := by decide +kernel
theorem dL_law_805 : decode cL_law 805 = .ok (.iaload, 1) := by decide +kernel
theorem dL_law_806 : decode cL_law 806 = .ok (.invokevirtual 96, 3) := by decide +kernel
theorem dL_law_809 : decode cL_law 809 = .ok (.if_icmp .eq 252, 3) := by decide +kernel
theorem dL_law_812 : decode cL_law 812 = .ok (.iconst 0, 1) := by decide +kernel
theorem dL_law_813 : decode cL_law 813 = .ok (.ireturn, 1) := by decide +kernel
theorem dL_law_814 : decode cL_law 814 = .ok (.aload_n 1, 1) := by decide +kernel
theorem dL_law_815 : decode cL_law 815 = .ok (.aload_n 0, 1) := by decide +kernel
theorem dL_law_816 : decode cL_law 816 = .ok (.iload_n 3, 1) := by decide +kernel
theorem dL_law_817 : decode cL_law 817 = .ok (.iconst 1, 1) := by decide +kernel
theorem dL_law_818 : decode cL_law 818 = .ok (.iadd, 1) := by decide +kernel
theorem dL_law_819 : decode cL_law 819 = .ok (.iaload, 1) := by decide +kernel
theorem dL_law_820 : decode cL_law 820 = .ok (.aload_n 0, 1) := by decide +kernel
theorem dL_law_821 : decode cL_law 821 = .ok (.iload_n 3, 1) := by decide +kernel
theorem dL_law_822 : decode cL_law 822 = .ok (.iconst 2, 1) := by decide +kernel
theorem dL_law_823 : decode cL_law 823 = .ok (.iadd, 1) := by decide +kernel
theorem dL_law_824 : decode cL_law 824 = .ok (.iaload, 1) := by decide +kernel
theorem dL_law_825 : decode cL_law 825 = .ok (.invokevirtual 97, 3) := by decide +kernel
theorem dL_law_828 : decode cL_law 828 = .ok (.aload_n 2, 1) := by decide +kernel
theorem dL_law_829 : decode cL_law 829 = .ok (.aload_n 0, 1) := by decide +kernel
theorem dL_law_830 : decode cL_law 830 = .ok (.iload_n 3, 1) := by decide +kernel
theorem dL_law_831 : decode cL_law 831 = .ok (.iconst 1, 1) := by decide +kernel
theorem dL_law_832 : decode cL_law 832 = .ok (.iadd, 1) := by decide +kernel
theorem dL_law_833 : decode cL_law 833 = .ok (.iaload, 1) := by decide +kernel
theorem dL_law_834 : decode cL_law 834 = .ok (.aload_n 0, 1) := by decide +kernel
theorem dL_law_835 : decode cL_law 835 = .ok (.iload_n 3, 1) := by decide +kernel
theorem dL_law_836 : decode cL_law 836 = .ok (.iconst 2, 1) := by decide +kernel
theorem dL_law_837 : decode cL_law 837 = .ok (.iadd, 1) := by decide +kernel
theorem dL_law_838 : decode cL_law 838 = .ok (.iaload, 1) := by decide +kernel
theorem dL_law_839 : decode cL_law 839 = .ok (.invokevirtual 100, 3) := by decide +kernel
theorem dL_law_842 : decode cL_law 842 = .ok (.if_icmp .eq 219, 3) := by decide +kernel
theorem dL_law_845 : decode cL_law 845 = .ok (.iconst 0, 1) := by decide +kernel
theorem dL_law_846 : decode cL_law 846 = .ok (.ireturn, 1) := by decide +kernel
theorem dL_law_847 : decode cL_law 847 = .ok (.aload_n 1, 1) := by decide +kernel
theorem dL_law_848 : decode cL_law 848 = .ok (.aload_n 0, 1) := by decide +kernel
theorem dL_law_849 : decode cL_law 849 = .ok (.iload_n 3, 1) := by decide +kernel
theorem dL_law_850 : decode cL_law 850 = .ok (.iconst 1, 1) := by decide +kernel
theorem dL_law_851 : decode cL_law 851 = .ok (.iadd, 1) := by decide +kernel
theorem dL_law_852 : decode cL_law 852 = .ok (.iaload, 1) := by decide +kernel
theorem dL_law_853 : decode cL_law 853 = .ok (.invokevirtual 101, 3) := by decide +kernel
theorem dL_law_856 : decode cL_law 856 = .ok (.aload_n 2, 1) := by decide +kernel
theorem dL_law_857 : decode cL_law 857 = .ok (.aload_n 0, 1) := by decide +kernel
theorem dL_law_858 : decode cL_law 858 = .ok (.iload_n 3, 1) := by decide +kernel
theorem dL_law_859 : decode cL_law 859 = .ok (.iconst 1, 1) := by decide +kernel
theorem dL_law_860 : decode cL_law 860 = .ok (.iadd, 1) := by decide +kernel
theorem dL_law_861 : decode cL_law 861 = .ok (.iaload, 1) := by decide +kernel
theorem dL_law_862 : decode cL_law 862 = .ok (.invokevirtual 104, 3) := by decide +kernel
theorem dL_law_865 : decode cL_law 865 = .ok (.if_icmp .eq 196, 3) := by decide +kernel
theorem dL_law_868 : decode cL_law 868 = .ok (.iconst 0, 1) := by decide +kernel
theorem dL_law_869 : decode cL_law 869 = .ok (.ireturn, 1) := by decide +kernel
theorem dL_law_870 : decode cL_law 870 = .ok (.aload_n 1, 1) := by decide +kernel
theorem dL_law_871 : decode cL_law 871 = .ok (.invokevirtual 105, 3) := by decide +kernel
theorem dL_law_874 : decode cL_law 874 = .ok (.aload_n 2, 1) := by decide +kernel
theorem dL_law_875 : decode cL_law 875 = .ok (.invokevirtual 109, 3) := by decide +kernel
theorem dL_law_878 : decode cL_law 878 = .ok (.if_icmp .eq 183, 3) := by decide +kernel
theorem dL_law_881 : decode cL_law 881 = .ok (.iconst 0, 1) := by decide +kernel
theorem dL_law_882 : decode cL_law 882 = .ok (.ireturn, 1) := by decide +kernel
theorem dL_law_883 : decode cL_law 883 = .ok (.aload_n 1, 1) := by decide +kernel
theorem dL_law_884 : decode cL_law 884 = .ok (.aload_n 0, 1) := by decide +kernel
theorem dL_law_885 : decode cL_law 885 = .ok (.iload_n 3, 1) := by decide +kernel
theorem dL_law_886 : decode cL_law 886 = .ok (.iconst 1, 1) := by decide +kernel
theorem dL_law_887 : decode cL_law 887 = .ok (.iadd, 1) := by decide +kernel
theorem dL_law_888 : decode cL_law 888 = .ok (.iaload, 1) := by decide +kernel
theorem dL_law_889 : decode cL_law 889 = .ok (.aload_n 0, 1) := by decide +kernel
theorem dL_law_890 : decode cL_law 890 = .ok (.iload_n 3, 1) := by decide +kernel
theorem dL_law_891 : decode cL_law 891 = .ok (.iconst 2, 1) := by decide +kernel
theorem dL_law_892 : decode cL_law 892 = .ok (.iadd, 1) := by decide +kernel
theorem dL_law_893 : decode cL_law 893 = .ok (.iaload, 1) := by decide +kernel
theorem dL_law_894 : decode cL_law 894 = .ok (.aload_n 0, 1) := by decide +kernel
theorem dL_law_895 : decode cL_law 895 = .ok (.iload_n 3, 1) := by decide +kernel
theorem dL_law_896 : decode cL_law 896 = .ok (.iconst 3, 1) := by decide +kernel
theorem dL_law_897 : decode cL_law 897 = .ok (.iadd, 1) := by decide +kernel
theorem dL_law_898 : decode cL_law 898 = .ok (.iaload, 1) := by decide +kernel
theorem dL_law_899 : decode cL_law 899 = .ok (.invokevirtual 110, 3) := by decide +kernel
theorem dL_law_902 : decode cL_law 902 = .ok (.aload_n 2, 1) := by decide +kernel
theorem dL_law_903 : decode cL_law 903 = .ok (.aload_n 0, 1) := by decide +kernel
theorem dL_law_904 : decode cL_law 904 = .ok (.iload_n 3, 1) := by decide +kernel
theorem dL_law_905 : decode cL_law 905 = .ok (.iconst 1, 1) := by decide +kernel
theorem dL_law_906 : decode cL_law 906 = .ok (.iadd, 1) := by decide +kernel
theorem dL_law_907 : decode cL_law 907 = .ok (.iaload, 1) := by decide +kernel
theorem dL_law_908 : decode cL_law 908 = .ok (.aload_n 0, 1) := by decide +kernel
theorem dL_law_909 : decode cL_law 909 = .ok (.iload_n 3, 1) := by decide +kernel
theorem dL_law_910 : decode cL_law 910 = .ok (.iconst 2, 1) := by decide +kernel
theorem dL_law_911 : decode cL_law 911 = .ok (.iadd, 1) := by decide +kernel
theorem dL_law_912 : decode cL_law 912 = .ok (.iaload, 1) := by decide +kernel
theorem dL_law_913 : decode cL_law 913 = .ok (.aload_n 0, 1) := by decide +kernel
theorem dL_law_914 : decode cL_law 914 = .ok (.iload_n 3, 1) := by decide +kernel
theorem dL_law_915 : decode cL_law 915 = .ok (.iconst 3, 1) := by decide +kernel
theorem dL_law_916 : decode cL_law 916 = .ok (.iadd, 1) := by decide +kernel
theorem dL_law_917 : decode cL_law 917 = .ok (.iaload, 1) := by decide +kernel
theorem dL_law_918 : decode cL_law 918 = .ok (.invokevirtual 113, 3) := by decide +kernel
theorem dL_law_921 : decode cL_law 921 = .ok (.if_icmp .eq 140, 3) := by decide +kernel
theorem dL_law_924 : decode cL_law 924 = .ok (.iconst 0, 1) := by decide +kernel
theorem dL_law_925 : decode cL_law 925 = .ok (.ireturn, 1) := by decide +kernel
theorem dL_law_926 : decode cL_law 926 = .ok (.aload_n 1, 1) := by decide +kernel
theorem dL_law_927 : decode cL_law 927 = .ok (.aload_n 0, 1) := by decide +kernel
theorem dL_law_928 : decode cL_law 928 = .ok (.iload_n 3, 1) := by decide +kernel
theorem dL_law_929 : decode cL_law 929 = .ok (.iconst 1, 1) := by decide +kernel
theorem dL_law_930 : decode cL_law 930 = .ok (.iadd, 1) := by decide +kernel
theorem dL_law_931 : decode cL_law 931 = .ok (.iaload, 1) := by decide +kernel
theorem dL_law_932 : decode cL_law 932 = .ok (.invokevirtual 114, 3) := by decide +kernel
theorem dL_law_935 : decode cL_law 935 = .ok (.aload_n 2, 1) := by decide +kernel
theorem dL_law_936 : decode cL_law 936 = .ok (.aload_n 0, 1) := by decide +kernel
theorem dL_law_937 : decode cL_law 937 = .ok (.iload_n 3, 1) := by decide +kernel
theorem dL_law_938 : decode cL_law 938 = .ok (.iconst 1, 1) := by decide +kernel
theorem dL_law_939 : decode cL_law 939 = .ok (.iadd, 1) := by decide +kernel
theorem dL_law_940 : decode cL_law 940 = .ok (.iaload, 1) := by decide +kernel
theorem dL_law_941 : decode cL_law 941 = .ok (.invokevirtual 117, 3) := by decide +kernel
theorem dL_law_944 : decode cL_law 944 = .ok (.if_icmp .eq 117, 3) := by decide +kernel
theorem dL_law_947 : decode cL_law 947 = .ok (.iconst 0, 1) := by decide +kernel
theorem dL_law_948 : decode cL_law 948 = .ok (.ireturn, 1) := by decide +kernel
theorem dL_law_949 : decode cL_law 949 = .ok (.aload_n 1, 1) := by decide +kernel
theorem dL_law_950 : decode cL_law 950 = .ok (.aload_n 0, 1) := by decide +kernel
theorem dL_law_951 : decode cL_law 951 = .ok (.iload_n 3, 1) := by decide +kernel
theorem dL_law_952 : decode cL_law 952 = .ok (.iconst 1, 1) := by decide +kernel
theorem dL_law_953 : decode cL_law 953 = .ok (.iadd, 1) := by decide +kernel
theorem dL_law_954 : decode cL_law 954 = .ok (.iaload, 1) := by decide +kernel
theorem dL_law_955 : decode cL_law 955 = .ok (.aload_n 0, 1) := by decide +kernel
theorem dL_law_956 : decode cL_law 956 = .ok (.iload_n 3, 1) := by decide +kernel
theorem dL_law_957 : decode cL_law 957 = .ok (.iconst 2, 1) := by decide +kernel
theorem dL_law_958 : decode cL_law 958 = .ok (.iadd, 1) := by decide +kernel
theorem dL_law_959 : decode cL_law 959 = .ok (.iaload, 1) := by decide +kernel
theorem dL_law_960 : decode cL_law 960 = .ok (.i2l, 1) := by decide +kernel
theorem dL_law_961 : decode cL_law 961 = .ok (.bipush 32, 2) := by decide +kernel
theorem dL_law_963 : decode cL_law 963 = .ok (.lshl, 1) := by decide +kernel
theorem dL_law_964 : decode cL_law 964 = .ok (.aload_n 0, 1) := by decide +kernel
theorem dL_law_965 : decode cL_law 965 = .ok (.iload_n 3, 1) := by decide +kernel
theorem dL_law_966 : decode cL_law 966 = .ok (.iconst 3, 1) := by decide +kernel
theorem dL_law_967 : decode cL_law 967 = .ok (.iadd, 1) := by decide +kernel
theorem dL_law_968 : decode cL_law 968 = .ok (.iaload, 1) := by decide +kernel
theorem dL_law_969 : decode cL_law 969 = .ok (.i2l, 1) := by decide +kernel
theorem dL_law_970 : decode cL_law 970 = .ok (.ldc2_w 118, 3) := by decide +kernel
theorem dL_law_973 : decode cL_law 973 = .ok (.land, 1) := by decide +kernel
theorem dL_law_974 : decode cL_law 974 = .ok (.lor, 1) := by decide +kernel
theorem dL_law_975 : decode cL_law 975 = .ok (.invokevirtual 120, 3) := by decide +kernel
theorem dL_law_978 : decode cL_law 978 = .ok (.aload_n 2, 1) := by decide +kernel
theorem dL_law_979 : decode cL_law 979 = .ok (.aload_n 0, 1) := by decide +kernel
theorem dL_law_980 : decode cL_law 980 = .ok (.iload_n 3, 1) := by decide +kernel
theorem dL_law_981 : decode cL_law 981 = .ok (.iconst 1, 1) := by decide +kernel
theorem dL_law_982 : decode cL_law 982 = .ok (.iadd, 1) := by decide +kernel
theorem dL_law_983 : decode cL_law 983 = .ok (.iaload, 1) := by decide +kernel
theorem dL_law_984 : decode cL_law 984 = .ok (.aload_n 0, 1) := by decide +kernel
theorem dL_law_985 : decode cL_law 985 = .ok (.iload_n 3, 1) := by decide +kernel
theorem dL_law_986 : decode cL_law 986 = .ok (.iconst 2, 1) := by decide +kernel
theorem dL_law_987 : decode cL_law 987 = .ok (.iadd, 1) := by decide +kernel
theorem dL_law_988 : decode cL_law 988 = .ok (.iaload, 1) := by decide +kernel
theorem dL_law_989 : decode cL_law 989 = .ok (.i2l, 1) := by decide +kernel
theorem dL_law_990 : decode cL_law 990 = .ok (.bipush 32, 2) := by decide +kernel
theorem dL_law_992 : decode cL_law 992 = .ok (.lshl, 1) := by decide +kernel
theorem dL_law_993 : decode cL_law 993 = .ok (.aload_n 0, 1) := by decide +kernel
theorem dL_law_994 : decode cL_law 994 = .ok (.iload_n 3, 1) := by decide +kernel
theorem dL_law_995 : decode cL_law 995 = .ok (.iconst 3, 1) := by decide +kernel
theorem dL_law_996 : decode cL_law 996 = .ok (.iadd, 1) := by decide +kernel
theorem dL_law_997 : decode cL_law 997 = .ok (.iaload, 1) := by decide +kernel
theorem dL_law_998 : decode cL_law 998 = .ok (.i2l, 1) := by decide +kernel
theorem dL_law_999 : decode cL_law 999 = .ok (.ldc2_w 118, 3) := by decide +kernel
theorem dL_law_1002 : decode cL_law 1002 = .ok (.land, 1) := by decide +kernel
theorem dL_law_1003 : decode cL_law 1003 = .ok (.lor, 1) := by decide +kernel
theorem dL_law_1004 : decode cL_law 1004 = .ok (.invokevirtual 124, 3) := by decide +kernel
theorem dL_law_1007 : decode cL_law 1007 = .ok (.if_icmp .eq 54, 3) := by decide +kernel
theorem dL_law_1010 : decode cL_law 1010 = .ok (.iconst 0, 1) := by decide +kernel
theorem dL_law_1011 : decode cL_law 1011 = .ok (.ireturn, 1) := by decide +kernel
theorem dL_law_1012 : decode cL_law 1012 = .ok (.aload_n 1, 1) := by decide +kernel
theorem dL_law_1013 : decode cL_law 1013 = .ok (.invokevirtual 125, 3) := by decide +kernel
theorem dL_law_1016 : decode cL_law 1016 = .ok (.aload_n 2, 1) := by decide +kernel
theorem dL_law_1017 : decode cL_law 1017 = .ok (.invokevirtual 128, 3) := by decide +kernel
theorem dL_law_1020 : decode cL_law 1020 = .ok (.if_icmp .eq 41, 3) := by decide +kernel
theorem dL_law_1023 : decode cL_law 1023 = .ok (.iconst 0, 1) := by decide +kernel
theorem dL_law_1024 : decode cL_law 1024 = .ok (.ireturn, 1) := by decide +kernel
theorem dL_law_1025 : decode cL_law 1025 = .ok (.aload_n 1, 1) := by decide +kernel
theorem dL_law_1026 : decode cL_law 1026 = .ok (.invokevirtual 129, 3) := by decide +kernel
theorem dL_law_1029 : decode cL_law 1029 = .ok (.aload_n 2, 1) := by decide +kernel
theorem dL_law_1030 : decode cL_law 1030 = .ok (.invokevirtual 132, 3) := by decide +kernel
theorem dL_law_1033 : decode cL_law 1033 = .ok (.if_icmp .eq 28, 3) := by decide +kernel
theorem dL_law_1036 : decode cL_law 1036 = .ok (.iconst 0, 1) := by decide +kernel
theorem dL_law_1037 : decode cL_law 1037 = .ok (.ireturn, 1) := by decide +kernel
theorem dL_law_1038 : decode cL_law 1038 = .ok (.aload_n 1, 1) := by decide +kernel
theorem dL_law_1039 : decode cL_law 1039 = .ok (.aload_n 0, 1) := by decide +kernel
theorem dL_law_1040 : decode cL_law 1040 = .ok (.iload_n 3, 1) := by decide +kernel
theorem dL_law_1041 : decode cL_law 1041 = .ok (.iconst 1, 1) := by decide +kernel
theorem dL_law_1042 : decode cL_law 1042 = .ok (.iadd, 1) := by decide +kernel
theorem dL_law_1043 : decode cL_law 1043 = .ok (.iaload, 1) := by decide +kernel
theorem dL_law_1044 : decode cL_law 1044 = .ok (.invokevirtual 133, 3) := by decide +kernel
theorem dL_law_1047 : decode cL_law 1047 = .ok (.aload_n 2, 1) := by decide +kernel
theorem dL_law_1048 : decode cL_law 1048 = .ok (.aload_n 0, 1) := by decide +kernel
theorem dL_law_1049 : decode cL_law 1049 = .ok (.iload_n 3, 1) := by decide +kernel
theorem dL_law_1050 : decode cL_law 1050 = .ok (.iconst 1, 1) := by decide +kernel
theorem dL_law_1051 : decode cL_law 1051 = .ok (.iadd, 1) := by decide +kernel
theorem dL_law_1052 : decode cL_law 1052 = .ok (.iaload, 1) := by decide +kernel
theorem dL_law_1053 : decode cL_law 1053 = .ok (.invokevirtual 136, 3) := by decide +kernel
theorem dL_law_1056 : decode cL_law 1056 = .ok (.if_icmp .eq 5, 3) := by decide +kernel
theorem dL_law_1059 : decode cL_law 1059 = .ok (.iconst 0, 1) := by decide +kernel
theorem dL_law_1060 : decode cL_law 1060 = .ok (.ireturn, 1) := by decide +kernel
theorem dL_law_1061 : decode cL_law 1061 = .ok (.iinc 3 5, 3) := by decide +kernel
theorem dL_law_1064 : decode cL_law 1064 = .ok (.goto (-1046), 3) := by decide +kernel
theorem dL_law_1067 : decode cL_law 1067 = .ok (.iconst 1, 1) := by decide +kernel
theorem dL_law_1068 : decode cL_law 1068 = .ok (.ireturn, 1) := by decide +kernel
set_option maxRecDepth 20000 in
theorem wm_RL_13 : Cond.methodLink RL 13 yX8_word ∈ px_TB := px_t2 61 rfl rfl
set_option maxRecDepth 20000 in
theorem wi_yX8_word : Cond.instanceMethod yX8_word ∈ px_TB := px_t2 62 rfl rfl
set_option maxRecDepth 20000 in
theorem wl_yX8_word : Cond.selects RX8 yX8_word yX8_word ∈ px_TB := px_t2 63 rfl rfl
set_option maxRecDepth 20000 in
theorem wm_RL_17 : Cond.methodLink RL 17 yX9_word ∈ px_TB := px_t5 23 rfl rfl
set_option maxRecDepth 20000 in
theorem wi_yX9_word : Cond.instanceMethod yX9_word ∈ px_TB := px_t5 24 rfl rfl
set_option maxRecDepth 20000 in
theorem wl_yX9_word : Cond.selects RX9 yX9_word yX9_word ∈ px_TB := px_t5 25 rfl rfl
set_option maxRecDepth 20000 in
theorem wm_RL_18 : Cond.methodLink RL 18 yX8_letter ∈ px_TB := px_t2 68 rfl rfl
set_option maxRecDepth 20000 in
theorem wi_yX8_letter : Cond.instanceMethod yX8_letter ∈ px_TB := px_t2 69 rfl rfl
set_option maxRecDepth 20000 in
theorem wl_yX8_letter : Cond.selects RX8 yX8_letter yX8_letter ∈ px_TB := px_t2 70 rfl rfl
set_option maxRecDepth 20000 in
theorem wm_RL_22 : Cond.methodLink RL 22 yX9_letter ∈ px_TB := px_t5 31 rfl rfl
set_option maxRecDepth 20000 in
theorem wm_RL_23 : Cond.methodLink RL 23 yX8_line ∈ px_TB := px_t2 90 rfl rfl
set_option maxRecDepth 20000 in
theorem wi_yX8_line : Cond.instanceMethod yX8_line ∈ px_TB := px_t2 91 rfl rfl
set_option maxRecDepth 20000 in
theorem wl_yX8_line : Cond.selects RX8 yX8_line yX8_line ∈ px_TB := px_t2 92 rfl rfl
set_option maxRecDepth 20000 in
theorem wm_RL_27 : Cond.methodLink RL 27 yX9_line ∈ px_TB := px_t5 42 rfl rfl
set_option maxRecDepth 20000 in
theorem wi_yX9_line : Cond.instanceMethod yX9_line ∈ px_TB := px_t5 43 rfl rfl
set_option maxRecDepth 20000 in
theorem wl_yX9_line : Cond.selects RX9 yX9_line yX9_line ∈ px_TB := px_t5 44 rfl rfl
set_option maxRecDepth 20000 in
theorem wm_RL_28 : Cond.methodLink RL 28 yX8_answer ∈ px_TB := px_t2 105 rfl rfl
set_option maxRecDepth 20000 in
theorem wi_yX8_answer : Cond.instanceMethod yX8_answer ∈ px_TB := px_t2 106 rfl rfl
set_option maxRecDepth 20000 in
theorem wl_yX8_answer : Cond.selects RX8 yX8_answer yX8_answer ∈ px_TB := px_t2 107 rfl rfl
set_option maxRecDepth 20000 in
theorem wm_RL_31 : Cond.methodLink RL 31 yX9_answer ∈ px_TB := px_t5 47 rfl rfl
set_option maxRecDepth 20000 in
theorem wi_yX9_answer : Cond.instanceMethod yX9_answer ∈ px_TB := px_t5 48 rfl rfl
set_option maxRecDepth 20000 in
theorem wl_yX9_answer : Cond.selects RX9 yX9_answer yX9_answer ∈ px_TB := px_t5 49 rfl rfl
set_option maxRecDepth 20000 in
theorem wm_RL_32 : Cond.methodLink RL 32 yX8_take ∈ px_TB := px_t2 114 rfl rfl
set_option maxRecDepth 20000 in
theorem wi_yX8_take : Cond.instanceMethod yX8_take ∈ px_TB := px_t2 115 rfl rfl
set_option maxRecDepth 20000 in
theorem wl_yX8_take : Cond.selects RX8 yX8_take yX8_take ∈ px_TB := px_t2 116 rfl rfl
set_option maxRecDepth 20000 in
theorem wm_RL_35 : Cond.methodLink RL 35 yX9_take ∈ px_TB := px_t5 55 rfl rfl
set_option maxRecDepth 20000 in
theorem wi_yX9_take : Cond.instanceMethod yX9_take ∈ px_TB := px_t5 56 rfl rfl
set_option maxRecDepth 20000 in
theorem wl_yX9_take : Cond.selects RX9 yX9_take yX9_take ∈ px_TB := px_t5 57 rfl rfl
set_option maxRecDepth 20000 in
theorem wm_RL_36 : Cond.methodLink RL 36 yX8_put ∈ px_TB := px_t2 126 rfl rfl
set_option maxRecDepth 20000 in
theorem wi_yX8_put : Cond.instanceMethod yX8_put ∈ px_TB := px_t2 127 rfl rfl
set_option maxRecDepth 20000 in
theorem wl_yX8_put : Cond.selects RX8 yX8_put yX8_put ∈ px_TB := px_t2 128 rfl rfl
set_option maxRecDepth 20000 in
theorem wm_RL_39 : Cond.methodLink RL 39 yX9_put ∈ px_TB := px_t5 59 rfl rfl
set_option maxRecDepth 20000 in
theorem wi_yX9_put : Cond.instanceMethod yX9_put ∈ px_TB := px_t5 60 rfl rfl
set_option maxRecDepth 20000 in
theorem wl_yX9_put : Cond.selects RX9 yX9_put yX9_put ∈ px_TB := px_t5 61 rfl rfl
set_option maxRecDepth 20000 in
theorem wm_RL_40 : Cond.methodLink RL 40 yX8_known ∈ px_TB := px_t2 130 rfl rfl
set_option maxRecDepth 20000 in
theorem wi_yX8_known : Cond.instanceMethod yX8_known ∈ px_TB := px_t2 131 rfl rfl
set_option maxRecDepth 20000 in
theorem wl_yX8_known : Cond.selects RX8 yX8_known yX8_known ∈ px_TB := px_t2 132 rfl rfl
set_option maxRecDepth 20000 in
theorem wm_RL_43 : Cond.methodLink RL 43 yX9_known ∈ px_TB := px_t5 63 rfl rfl
set_option maxRecDepth 20000 in
theorem wi_yX9_known : Cond.instanceMethod yX9_known ∈ px_TB := px_t5 64 rfl rfl
set_option maxRecDepth 20000 in
theorem wl_yX9_known : Cond.selects RX9 yX9_known yX9_known ∈ px_TB := px_t5 65 rfl rfl
set_option maxRecDepth 20000 in
theorem wm_RL_44 : Cond.methodLink RL 44 yX8_about ∈ px_TB := px_t2 134 rfl rfl
set_option maxRecDepth 20000 in
theorem wi_yX8_about : Cond.instanceMethod yX8_about ∈ px_TB := px_t2 135 rfl rfl
set_option maxRecDepth 20000 in
theorem wl_yX8_about : Cond.selects RX8 yX8_about yX8_about ∈ px_TB := px_t2 136 rfl rfl
set_option maxRecDepth 20000 in
theorem wm_RL_47 : Cond.methodLink RL 47 yX9_about ∈ px_TB := px_t5 95 rfl rfl
set_option maxRecDepth 20000 in
theorem wi_yX9_about : Cond.instanceMethod yX9_about ∈ px_TB := px_t5 96 rfl rfl
set_option maxRecDepth 20000 in
theorem wl_yX9_about : Cond.selects RX9 yX9_about yX9_about ∈ px_TB := px_t5 97 rfl rfl
set_option maxRecDepth 20000 in
theorem wm_RL_48 : Cond.methodLink RL 48 yX8_told ∈ px_TB := px_t2 235 rfl rfl
set_option maxRecDepth 20000 in
theorem wi_yX8_told : Cond.instanceMethod yX8_told ∈ px_TB := px_t2 236 rfl rfl
set_option maxRecDepth 20000 in
theorem wl_yX8_told : Cond.selects RX8 yX8_told yX8_told ∈ px_TB := px_t2 237 rfl rfl
set_option maxRecDepth 20000 in
theorem wm_RL_51 : Cond.methodLink RL 51 yX9_told ∈ px_TB := px_t5 124 rfl rfl
set_option maxRecDepth 20000 in
theorem wi_yX9_told : Cond.instanceMethod yX9_told ∈ px_TB := px_t5 125 rfl rfl
set_option maxRecDepth 20000 in
theorem wl_yX9_told : Cond.selects RX9 yX9_told yX9_told ∈ px_TB := px_t5 126 rfl rfl
set_option maxRecDepth 20000 in
theorem wm_RL_52 : Cond.methodLink RL 52 yX8_differ ∈ px_TB := px_t3 10 rfl rfl
set_option maxRecDepth 20000 in
theorem wi_yX8_differ : Cond.instanceMethod yX8_differ ∈ px_TB := px_t3 11 rfl rfl
set_option maxRecDepth 20000 in
theorem wl_yX8_differ : Cond.selects RX8 yX8_differ yX8_differ ∈ px_TB := px_t3 12 rfl rfl
set_option maxRecDepth 20000 in
theorem wm_RL_56 : Cond.methodLink RL 56 yX9_differ ∈ px_TB := px_t5 67 rfl rfl
set_option maxRecDepth 20000 in
theorem wi_yX9_differ : Cond.instanceMethod yX9_differ ∈ px_TB := px_t5 68 rfl rfl
set_option maxRecDepth 20000 in
theorem wl_yX9_differ : Cond.selects RX9 yX9_differ yX9_differ ∈ px_TB := px_t5 69 rfl rfl
set_option maxRecDepth 20000 in
theorem wm_RL_57 : Cond.methodLink RL 57 yX8_fit ∈ px_TB := px_t3 15 rfl rfl
set_option maxRecDepth 20000 in
theorem wi_yX8_fit : Cond.instanceMethod yX8_fit ∈ px_TB := px_t3 16 rfl rfl
set_option maxRecDepth 20000 in
theorem wl_yX8_fit : Cond.selects RX8 yX8_fit yX8_fit ∈ px_TB := px_t3 17 rfl rfl
set_option maxRecDepth 20000 in
theorem wm_RL_60 : Cond.methodLink RL 60 yX9_fit ∈ px_TB := px_t5 79 rfl rfl
set_option maxRecDepth 20000 in
theorem wi_yX9_fit : Cond.instanceMethod yX9_fit ∈ px_TB := px_t5 80 rfl rfl
set_option maxRecDepth 20000 in
theorem wl_yX9_fit : Cond.selects RX9 yX9_fit yX9_fit ∈ px_TB := px_t5 81 rfl rfl
set_option maxRecDepth 20000 in
theorem wm_RL_61 : Cond.methodLink RL 61 yX8_count ∈ px_TB := px_t3 19 rfl rfl
set_option maxRecDepth 20000 in
theorem wi_yX8_count : Cond.instanceMethod yX8_count ∈ px_TB := px_t3 20 rfl rfl
set_option maxRecDepth 20000 in
theorem wl_yX8_count : Cond.selects RX8 yX8_count yX8_count ∈ px_TB := px_t3 21 rfl rfl
set_option maxRecDepth 20000 in
theorem wm_RL_64 : Cond.methodLink RL 64 yX9_count ∈ px_TB := px_t6 8 rfl rfl
set_option maxRecDepth 20000 in
theorem wi_yX9_count : Cond.instanceMethod yX9_count ∈ px_TB := px_t6 9 rfl rfl
set_option maxRecDepth 20000 in
theorem wl_yX9_count : Cond.selects RX9 yX9_count yX9_count ∈ px_TB := px_t6 10 rfl rfl
set_option maxRecDepth 20000 in
theorem wm_RL_65 : Cond.methodLink RL 65 yX8_origin ∈ px_TB := px_t3 87 rfl rfl
set_option maxRecDepth 20000 in
theorem wi_yX8_origin : Cond.instanceMethod yX8_origin ∈ px_TB := px_t3 88 rfl rfl
set_option maxRecDepth 20000 in
theorem wl_yX8_origin : Cond.selects RX8 yX8_origin yX8_origin ∈ px_TB := px_t3 89 rfl rfl
set_option maxRecDepth 20000 in
theorem wm_RL_68 : Cond.methodLink RL 68 yX9_origin ∈ px_TB := px_t5 128 rfl rfl
set_option maxRecDepth 20000 in
theorem wi_yX9_origin : Cond.instanceMethod yX9_origin ∈ px_TB := px_t5 129 rfl rfl
set_option maxRecDepth 20000 in
theorem wl_yX9_origin : Cond.selects RX9 yX9_origin yX9_origin ∈ px_TB := px_t5 130 rfl rfl
set_option maxRecDepth 20000 in
theorem wm_RL_69 : Cond.methodLink RL 69 yX8_altered ∈ px_TB := px_t3 92 rfl rfl
set_option maxRecDepth 20000 in
theorem wi_yX8_altered : Cond.instanceMethod yX8_altered ∈ px_TB := px_t3 93 rfl rfl
set_option maxRecDepth 20000 in
theorem wl_yX8_altered : Cond.selects RX8 yX8_altered yX8_altered ∈ px_TB := px_t3 94 rfl rfl
set_option maxRecDepth 20000 in
theorem wm_RL_72 : Cond.methodLink RL 72 yX9_altered ∈ px_TB := px_t5 145 rfl rfl
set_option maxRecDepth 20000 in
theorem wi_yX9_altered : Cond.instanceMethod yX9_altered ∈ px_TB := px_t5 146 rfl rfl
set_option maxRecDepth 20000 in
theorem wl_yX9_altered : Cond.selects RX9 yX9_altered yX9_altered ∈ px_TB := px_t5 147 rfl rfl
set_option maxRecDepth 20000 in
theorem wm_RL_73 : Cond.methodLink RL 73 yX8_echoes ∈ px_TB := px_t3 97 rfl rfl
set_option maxRecDepth 20000 in
theorem wi_yX8_echoes : Cond.instanceMethod yX8_echoes ∈ px_TB := px_t3 98 rfl rfl
set_option maxRecDepth 20000 in
theorem wl_yX8_echoes : Cond.selects RX8 yX8_echoes yX8_echoes ∈ px_TB := px_t3 99 rfl rfl
set_option maxRecDepth 20000 in
theorem wm_RL_76 : Cond.methodLink RL 76 yX9_echoes ∈ px_TB := px_t5 153 rfl rfl
set_option maxRecDepth 20000 in
theorem wi_yX9_echoes : Cond.instanceMethod yX9_echoes ∈ px_TB := px_t5 154 rfl rfl
set_option maxRecDepth 20000 in
theorem wl_yX9_echoes : Cond.selects RX9 yX9_echoes yX9_echoes ∈ px_TB := px_t5 155 rfl rfl
set_option maxRecDepth 20000 in
theorem wm_RL_77 : Cond.methodLink RL 77 yX8_group ∈ px_TB := px_t3 101 rfl rfl
set_option maxRecDepth 20000 in
theorem wi_yX8_group : Cond.instanceMethod yX8_group ∈ px_TB := px_t3 102 rfl rfl
set_option maxRecDepth 20000 in
theorem wl_yX8_group : Cond.selects RX8 yX8_group yX8_group ∈ px_TB := px_t3 103 rfl rfl
set_option maxRecDepth 20000 in
theorem wm_RL_80 : Cond.methodLink RL 80 yX9_group ∈ px_TB := px_t5 157 rfl rfl
set_option maxRecDepth 20000 in
theorem wi_yX9_group : Cond.instanceMethod yX9_group ∈ px_TB := px_t5 158 rfl rfl
set_option maxRecDepth 20000 in
theorem wl_yX9_group : Cond.selects RX9 yX9_group yX9_group ∈ px_TB := px_t5 159 rfl rfl
set_option maxRecDepth 20000 in
theorem wm_RL_81 : Cond.methodLink RL 81 yX8_lost ∈ px_TB := px_t3 105 rfl rfl
set_option maxRecDepth 20000 in
theorem wi_yX8_lost : Cond.instanceMethod yX8_lost ∈ px_TB := px_t3 106 rfl rfl
set_option maxRecDepth 20000 in
theorem wl_yX8_lost : Cond.selects RX8 yX8_lost yX8_lost ∈ px_TB := px_t3 107 rfl rfl
set_option maxRecDepth 20000 in
theorem wm_RL_84 : Cond.methodLink RL 84 yX9_lost ∈ px_TB := px_t5 177 rfl rfl
set_option maxRecDepth 20000 in
theorem wi_yX9_lost : Cond.instanceMethod yX9_lost ∈ px_TB := px_t5 178 rfl rfl
set_option maxRecDepth 20000 in
theorem wl_yX9_lost : Cond.selects RX9 yX9_lost yX9_lost ∈ px_TB := px_t5 179 rfl rfl
set_option maxRecDepth 20000 in
theorem wm_RL_85 : Cond.methodLink RL 85 yX8_lostWord ∈ px_TB := px_t3 174 rfl rfl
set_option maxRecDepth 20000 in
theorem wi_yX8_lostWord : Cond.instanceMethod yX8_lostWord ∈ px_TB := px_t3 175 rfl rfl
set_option maxRecDepth 20000 in
theorem wl_yX8_lostWord : Cond.selects RX8 yX8_lostWord yX8_lostWord ∈ px_TB := px_t3 176 rfl rfl
set_option maxRecDepth 20000 in
theorem wm_RL_88 : Cond.methodLink RL 88 yX9_lostWord ∈ px_TB := px_t5 208 rfl rfl
set_option maxRecDepth 20000 in
theorem wi_yX9_lostWord : Cond.instanceMethod yX9_lostWord ∈ px_TB := px_t5 209 rfl rfl
set_option maxRecDepth 20000 in
theorem wl_yX9_lostWord : Cond.selects RX9 yX9_lostWord yX9_lostWord ∈ px_TB := px_t5 210 rfl rfl
set_option maxRecDepth 20000 in
theorem wm_RL_89 : Cond.methodLink RL 89 yX8_order ∈ px_TB := px_t3 182 rfl rfl
set_option maxRecDepth 20000 in
theorem wi_yX8_order : Cond.instanceMethod yX8_order ∈ px_TB := px_t3 183 rfl rfl
set_option maxRecDepth 20000 in
theorem wl_yX8_order : Cond.selects RX8 yX8_order yX8_order ∈ px_TB := px_t3 184 rfl rfl
set_option maxRecDepth 20000 in
theorem wm_RL_92 : Cond.methodLink RL 92 yX9_order ∈ px_TB := px_t5 212 rfl rfl
set_option maxRecDepth 20000 in
theorem wi_yX9_order : Cond.instanceMethod yX9_order ∈ px_TB := px_t5 213 rfl rfl
set_option maxRecDepth 20000 in
theorem wl_yX9_order : Cond.selects RX9 yX9_order yX9_order ∈ px_TB := px_t5 214 rfl rfl
set_option maxRecDepth 20000 in
theorem wm_RL_93 : Cond.methodLink RL 93 yX8_quarrel ∈ px_TB := px_t3 194 rfl rfl
set_option maxRecDepth 20000 in
theorem wi_yX8_quarrel : Cond.instanceMethod yX8_quarrel ∈ px_TB := px_t3 195 rfl rfl
set_option maxRecDepth 20000 in
theorem wl_yX8_quarrel : Cond.selects RX8 yX8_quarrel yX8_quarrel ∈ px_TB := px_t3 196 rfl rfl
set_option maxRecDepth 20000 in
theorem wm_RL_96 : Cond.methodLink RL 96 yX9_quarrel ∈ px_TB := px_t5 216 rfl rfl
set_option maxRecDepth 20000 in
theorem wi_yX9_quarrel : Cond.instanceMethod yX9_quarrel ∈ px_TB := px_t5 217 rfl rfl
set_option maxRecDepth 20000 in
theorem wl_yX9_quarrel : Cond.selects RX9 yX9_quarrel yX9_quarrel ∈ px_TB := px_t5 218 rfl rfl
set_option maxRecDepth 20000 in
theorem wm_RL_97 : Cond.methodLink RL 97 yX8_span ∈ px_TB := px_t3 202 rfl rfl
set_option maxRecDepth 20000 in
theorem wi_yX8_span : Cond.instanceMethod yX8_span ∈ px_TB := px_t3 203 rfl rfl
set_option maxRecDepth 20000 in
theorem wl_yX8_span : Cond.selects RX8 yX8_span yX8_span ∈ px_TB := px_t3 204 rfl rfl
set_option maxRecDepth 20000 in
theorem wm_RL_100 : Cond.methodLink RL 100 yX9_span ∈ px_TB := px_t5 224 rfl rfl
set_option maxRecDepth 20000 in
theorem wi_yX9_span : Cond.instanceMethod yX9_span ∈ px_TB := px_t5 225 rfl rfl
set_option maxRecDepth 20000 in
theorem wl_yX9_span : Cond.selects RX9 yX9_span yX9_span ∈ px_TB := px_t5 226 rfl rfl
set_option maxRecDepth 20000 in
theorem wm_RL_101 : Cond.methodLink RL 101 yX8_sign ∈ px_TB := px_t3 216 rfl rfl
set_option maxRecDepth 20000 in
theorem wi_yX8_sign : Cond.instanceMethod yX8_sign ∈ px_TB := px_t3 217 rfl rfl
set_option maxRecDepth 20000 in
theorem wl_yX8_sign : Cond.selects RX8 yX8_sign yX8_sign ∈ px_TB := px_t3 218 rfl rfl
set_option maxRecDepth 20000 in
theorem wm_RL_104 : Cond.methodLink RL 104 yX9_sign ∈ px_TB := px_t5 228 rfl rfl
set_option maxRecDepth 20000 in
theorem wi_yX9_sign : Cond.instanceMethod yX9_sign ∈ px_TB := px_t5 229 rfl rfl
set_option maxRecDepth 20000 in
theorem wl_yX9_sign : Cond.selects RX9 yX9_sign yX9_sign ∈ px_TB := px_t5 230 rfl rfl
set_option maxRecDepth 20000 in
theorem wm_RL_105 : Cond.methodLink RL 105 yX8_clear ∈ px_TB := px_t3 224 rfl rfl
set_option maxRecDepth 20000 in
theorem wi_yX8_clear : Cond.instanceMethod yX8_clear ∈ px_TB := px_t3 225 rfl rfl
set_option maxRecDepth 20000 in
theorem wl_yX8_clear : Cond.selects RX8 yX8_clear yX8_clear ∈ px_TB := px_t3 226 rfl rfl
set_option maxRecDepth 20000 in
theorem wm_RL_109 : Cond.methodLink RL 109 yX9_clear ∈ px_TB := px_t5 232 rfl rfl
set_option maxRecDepth 20000 in
theorem wi_yX9_clear : Cond.instanceMethod yX9_clear ∈ px_TB := px_t5 233 rfl rfl
set_option maxRecDepth 20000 in
theorem wl_yX9_clear : Cond.selects RX9 yX9_clear yX9_clear ∈ px_TB := px_t5 234 rfl rfl
set_option maxRecDepth 20000 in
theorem wm_RL_110 : Cond.methodLink RL 110 yX8_seek ∈ px_TB := px_t3 228 rfl rfl
set_option maxRecDepth 20000 in
theorem wi_yX8_seek : Cond.instanceMethod yX8_seek ∈ px_TB := px_t3 229 rfl rfl
set_option maxRecDepth 20000 in
theorem wl_yX8_seek : Cond.selects RX8 yX8_seek yX8_seek ∈ px_TB := px_t3 230 rfl rfl
set_option maxRecDepth 20000 in
theorem wm_RL_113 : Cond.methodLink RL 113 yX9_seek ∈ px_TB := px_t5 236 rfl rfl
set_option maxRecDepth 20000 in
theorem wi_yX9_seek : Cond.instanceMethod yX9_seek ∈ px_TB := px_t5 237 rfl rfl
set_option maxRecDepth 20000 in
theorem wl_yX9_seek : Cond.selects RX9 yX9_seek yX9_seek ∈ px_TB := px_t5 238 rfl rfl
set_option maxRecDepth 20000 in
theorem wm_RL_114 : Cond.methodLink RL 114 yX8_still ∈ px_TB := px_t4 5 rfl rfl
set_option maxRecDepth 20000 in
theorem wi_yX8_still : Cond.instanceMethod yX8_still ∈ px_TB := px_t4 6 rfl rfl
set_option maxRecDepth 20000 in
theorem wl_yX8_still : Cond.selects RX8 yX8_still yX8_still ∈ px_TB := px_t4 7 rfl rfl
set_option maxRecDepth 20000 in
theorem wm_RL_117 : Cond.methodLink RL 117 yX9_still ∈ px_TB := px_t6 4 rfl rfl
set_option maxRecDepth 20000 in
theorem wi_yX9_still : Cond.instanceMethod yX9_still ∈ px_TB := px_t6 5 rfl rfl
set_option maxRecDepth 20000 in
theorem wl_yX9_still : Cond.selects RX9 yX9_still yX9_still ∈ px_TB := px_t6 6 rfl rfl
set_option maxRecDepth 20000 in
theorem wk_RL_118 : Cond.constantLong RL 118 4294967295 ∈ px_TB := px_t6 63 rfl rfl
set_option maxRecDepth 20000 in
theorem wm_RL_120 : Cond.methodLink RL 120 yX8_feed ∈ px_TB := px_t4 13 rfl rfl
set_option maxRecDepth 20000 in
theorem wi_yX8_feed : Cond.instanceMethod yX8_feed ∈ px_TB := px_t4 14 rfl rfl
set_option maxRecDepth 20000 in
theorem wl_yX8_feed : Cond.selects RX8 yX8_feed yX8_feed ∈ px_TB := px_t4 15 rfl rfl
set_option maxRecDepth 20000 in
theorem wm_RL_124 : Cond.methodLink RL 124 yX9_feed ∈ px_TB := px_t6 13 rfl rfl
set_option maxRecDepth 20000 in
theorem wi_yX9_feed : Cond.instanceMethod yX9_feed ∈ px_TB := px_t6 14 rfl rfl
set_option maxRecDepth 20000 in
theorem wl_yX9_feed : Cond.selects RX9 yX9_feed yX9_feed ∈ px_TB := px_t6 15 rfl rfl
set_option maxRecDepth 20000 in
theorem wm_RL_125 : Cond.methodLink RL 125 yX8_read ∈ px_TB := px_t4 21 rfl rfl
set_option maxRecDepth 20000 in
theorem wi_yX8_read : Cond.instanceMethod yX8_read ∈ px_TB := px_t4 22 rfl rfl
set_option maxRecDepth 20000 in
theorem wl_yX8_read : Cond.selects RX8 yX8_read yX8_read ∈ px_TB := px_t4 23 rfl rfl
set_option maxRecDepth 20000 in
theorem wm_RL_128 : Cond.methodLink RL 128 yX9_read ∈ px_TB := px_t6 19 rfl rfl
set_option maxRecDepth 20000 in
theorem wi_yX9_read : Cond.instanceMethod yX9_read ∈ px_TB := px_t6 20 rfl rfl
set_option maxRecDepth 20000 in
theorem wl_yX9_read : Cond.selects RX9 yX9_read yX9_read ∈ px_TB := px_t6 21 rfl rfl
set_option maxRecDepth 20000 in
theorem wm_RL_129 : Cond.methodLink RL 129 yX8_fault ∈ px_TB := px_t4 135 rfl rfl
set_option maxRecDepth 20000 in
theorem wi_yX8_fault : Cond.instanceMethod yX8_fault ∈ px_TB := px_t4 136 rfl rfl
set_option maxRecDepth 20000 in
theorem wl_yX8_fault : Cond.selects RX8 yX8_fault yX8_fault ∈ px_TB := px_t4 137 rfl rfl
set_option maxRecDepth 20000 in
theorem wm_RL_132 : Cond.methodLink RL 132 yX9_fault ∈ px_TB := px_t6 55 rfl rfl
set_option maxRecDepth 20000 in
theorem wi_yX9_fault : Cond.instanceMethod yX9_fault ∈ px_TB := px_t6 56 rfl rfl
set_option maxRecDepth 20000 in
theorem wl_yX9_fault : Cond.selects RX9 yX9_fault yX9_fault ∈ px_TB := px_t6 57 rfl rfl
set_option maxRecDepth 20000 in
theorem wm_RL_133 : Cond.methodLink RL 133 yX8_rule ∈ px_TB := px_t4 139 rfl rfl
set_option maxRecDepth 20000 in
theorem wi_yX8_rule : Cond.instanceMethod yX8_rule ∈ px_TB := px_t4 140 rfl rfl
set_option maxRecDepth 20000 in
theorem wl_yX8_rule : Cond.selects RX8 yX8_rule yX8_rule ∈ px_TB := px_t4 141 rfl rfl
set_option maxRecDepth 20000 in
theorem wm_RL_136 : Cond.methodLink RL 136 yX9_rule ∈ px_TB := px_t6 59 rfl rfl
set_option maxRecDepth 20000 in
theorem wi_yX9_rule : Cond.instanceMethod yX9_rule ∈ px_TB := px_t6 60 rfl rfl
set_option maxRecDepth 20000 in
theorem wl_yX9_rule : Cond.selects RX9 yX9_rule yX9_rule ∈ px_TB := px_t6 61 rfl rfl
def tb_law (L : Nat) (xs : Nat → Int32) : List (Nat × px_I) := [(16, .inl (pi_const 17 (.int 0))), (17, .inl (pi_istore 18 3)), (18, .inl (pi_iload 19 3)), (19, .inl (pi_aload 20 0)), (20, .inl (pi_scl 21 L)), (21, .inl (pi_const 22 (.int 5))), (22, .inl (pi_bin 23 (fun x y => x - y))), (23, .inl (pi_icmp 26 1067 (fun x y => y < x))), (26, .inl (pi_aload 27 0)), (27, .inl (pi_iload 28 3)), (28, .inl (pi_sld 29 L xs)), (29, .inl (pi_const 31 (.int 31))), (31, .inl (pi_bin 32 (fun x y => x &&& y))), (32, .inl (pi_tsw 0 28 1061 [164, 187, 230, 263, 306, 329, 352, 375, 408, 451, 504, 537, 560, 603, 636, 669, 692, 725, 768, 791, 814, 847, 870, 883, 926, 949, 1012, 1025, 1038])), (164, .inl (pi_aload 165 1)), (165, .inl (pi_aload 166 0)), (166, .inl (pi_iload 167 3)), (167, .inl (pi_const 168 (.int 1))), (168, .inl (pi_bin 169 (fun x y => x + y))), (169, .inl (pi_sld 170 L xs)), (170, .inr (.inl (1, 2, 8, 173))), (173, .inl (pi_aload 174 2)), (174, .inl (pi_aload 175 0)), (175, .inl (pi_iload 176 3)), (176, .inl (pi_const 177 (.int 1))), (177, .inl (pi_bin 178 (fun x y => x + y))), (178, .inl (pi_sld 179 L xs)), (179, .inr (.inl (129, 2, 9, 182))), (182, .inl (pi_icmp 185 1061 (fun x y => x = y))), (185, .inl (pi_const 186 (.int 0))), (186, .inr (.inr pr_i)), (187, .inl (pi_aload 188 1)), (188, .inl (pi_aload 189 0)), (189, .inl (pi_iload 190 3)), (190, .inl (pi_const 191 (.int 1))), (191, .inl (pi_bin 192 (fun x y => x + y))), (192, .inl (pi_sld 193 L xs)), (193, .inl (pi_aload 194 0)), (194, .inl (pi_iload 195 3)), (195, .inl (pi_const 196 (.int 2))), (196, .inl (pi_bin 197 (fun x y => x + y))), (197, .inl (pi_sld 198 L xs)), (198, .inl (pi_aload 199 0)), (199, .inl (pi_iload 200 3)), (200, .inl (pi_const 201 (.int 3))), (201, .inl (pi_bin 202 (fun x y => x + y))), (202, .inl (pi_sld 203 L xs)), (203, .inr (.inl (3, 4, 8, 206))), (206, .inl (pi_aload 207 2)), (207, .inl (pi_aload 208 0)), (208, .inl (pi_iload 209 3)), (209, .inl (pi_const 210 (.int 1))), (210, .inl (pi_bin 211 (fun x y => x + y))), (211, .inl (pi_sld 212 L xs)), (212, .inl (pi_aload 213 0)), (213, .inl (pi_iload 214 3)), (214, .inl (pi_const 215 (.int 2))), (215, .inl (pi_bin 216 (fun x y => x + y))), (216, .inl (pi_sld 217 L xs)), (217, .inl (pi_aload 218 0)), (218, .inl (pi_iload 219 3)), (219, .inl (pi_const 220 (.int 3))), (220, .inl (pi_bin 221 (fun x y => x + y))), (221, .inl (pi_sld 222 L xs)), (222, .inr (.inl (131, 4, 9, 225))), (225, .inl (pi_icmp 228 1061 (fun x y => x = y))), (228, .inl (pi_const 229 (.int 0))), (229, .inr (.inr pr_i)), (230, .inl (pi_aload 231 1)), (231, .inl (pi_aload 232 0)), (232, .inl (pi_iload 233 3)), (233, .inl (pi_const 234 (.int 1))), (234, .inl (pi_bin 235 (fun x y => x + y))), (235, .inl (pi_sld 236 L xs)), (236, .inl (pi_aload 237 0)), (237, .inl (pi_iload 238 3)), (238, .inl (pi_const 239 (.int 2))), (239, .inl (pi_bin 240 (fun x y => x + y))), (240, .inl (pi_sld 241 L xs)), (241, .inr (.inl (9, 3, 8, 244))), (244, .inl (pi_aload 245 2)), (245, .inl (pi_aload 246 0)), (246, .inl (pi_iload 247 3)), (247, .inl (pi_const 248 (.int 1))), (248, .inl (pi_bin 249 (fun x y => x + y))), (249, .inl (pi_sld 250 L xs)), (250, .inl (pi_aload 251 0)), (251, .inl (pi_iload 252 3)), (252, .inl (pi_const 253 (.int 2))), (253, .inl (pi_bin 254 (fun x y => x + y))), (254, .inl (pi_sld 255 L xs)), (255, .inr (.inl (133, 3, 9, 258))), (258, .inl (pi_icmp 261 1061 (fun x y => x = y))), (261, .inl (pi_const 262 (.int 0))), (262, .inr (.inr pr_i)), (263, .inl (pi_aload 264 1)), (264, .inl (pi_aload 265 0)), (265, .inl (pi_iload 266 3)), (266, .inl (pi_const 267 (.int 1))), (267, .inl (pi_bin 268 (fun x y => x + y))), (268, .inl (pi_sld 269 L xs)), (269, .inl (pi_aload 270 0)), (270, .inl (pi_iload 271 3)), (271, .inl (pi_const 272 (.int 2))), (272, .inl (pi_bin 273 (fun x y => x + y))), (273, .inl (pi_sld 274 L xs)), (274, .inl (pi_aload 275 0)), (275, .inl (pi_iload 276 3)), (276, .inl (pi_const 277 (.int 3))), (277, .inl (pi_bin 278 (fun x y => x + y))), (278, .inl (pi_sld 279 L xs)), (279, .inr (.inl (13, 4, 8, 282))), (282, .inl (pi_aload 283 2)), (283, .inl (pi_aload 284 0)), (284, .inl (pi_iload 285 3)), (285, .inl (pi_const 286 (.int 1))), (286, .inl (pi_bin 287 (fun x y => x + y))), (287, .inl (pi_sld 288 L xs)), (288, .inl (pi_aload 289 0)), (289, .inl (pi_iload 290 3)), (290, .inl (pi_const 291 (.int 2))), (291, .inl (pi_bin 292 (fun x y => x + y))), (292, .inl (pi_sld 293 L xs)), (293, .inl (pi_aload 294 0)), (294, .inl (pi_iload 295 3)), (295, .inl (pi_const 296 (.int 3))), (296, .inl (pi_bin 297 (fun x y => x + y))), (297, .inl (pi_sld 298 L xs)), (298, .inr (.inl (134, 4, 9, 301))), (301, .inl (pi_icmp 304 1061 (fun x y => x = y))), (304, .inl (pi_const 305 (.int 0))), (305, .inr (.inr pr_i)), (306, .inl (pi_aload 307 1)), (307, .inl (pi_aload 308 0)), (308, .inl (pi_iload 309 3)), (309, .inl (pi_const 310 (.int 1))), (310, .inl (pi_bin 311 (fun x y => x + y))), (311, .inl (pi_sld 312 L xs)), (312, .inr (.inl (15, 2, 8, 315))), (315, .inl (pi_aload 316 2)), (316, .inl (pi_aload 317 0)), (317, .inl (pi_iload 318 3)), (318, .inl (pi_const 319 (.int 1))), (319, .inl (pi_bin 320 (fun x y => x + y))), (320, .inl (pi_sld 321 L xs)), (321, .inr (.inl (136, 2, 9, 324))), (324, .inl (pi_icmp 327 1061 (fun x y => x = y))), (327, .inl (pi_const 328 (.int 0))), (328, .inr (.inr pr_i)), (329, .inl (pi_aload 330 1)), (330, .inl (pi_aload 331 0)), (331, .inl (pi_iload 332 3)), (332, .inl (pi_const 333 (.int 1))), (333, .inl (pi_bin 334 (fun x y => x + y))), (334, .inl (pi_sld 335 L xs)), (335, .inr (.inl (18, 2, 8, 338))), (338, .inl (pi_aload 339 2)), (339, .inl (pi_aload 340 0)), (340, .inl (pi_iload 341 3)), (341, .inl (pi_const 342 (.int 1))), (342, .inl (pi_bin 343 (fun x y => x + y))), (343, .inl (pi_sld 344 L xs)), (344, .inr (.inl (137, 2, 9, 347))), (347, .inl (pi_icmp 350 1061 (fun x y => x = y))), (350, .inl (pi_const 351 (.int 0))), (351, .inr (.inr pr_i)), (352, .inl (pi_aload 353 1)), (353, .inl (pi_aload 354 0)), (354, .inl (pi_iload 355 3)), (355, .inl (pi_const 356 (.int 1))), (356, .inl (pi_bin 357 (fun x y => x + y))), (357, .inl (pi_sld 358 L xs)), (358, .inr (.inl (19, 2, 8, 361))), (361, .inl (pi_aload 362 2)), (362, .inl (pi_aload 363 0)), (363, .inl (pi_iload 364 3)), (364, .inl (pi_const 365 (.int 1))), (365, .inl (pi_bin 366 (fun x y => x + y))), (366, .inl (pi_sld 367 L xs)), (367, .inr (.inl (138, 2, 9, 370))), (370, .inl (pi_icmp 373 1061 (fun x y => x = y))), (373, .inl (pi_const 374 (.int 0))), (374, .inr (.inr pr_i)), (375, .inl (pi_aload 376 1)), (376, .inl (pi_aload 377 0)), (377, .inl (pi_iload 378 3)), (378, .inl (pi_const 379 (.int 1))), (379, .inl (pi_bin 380 (fun x y => x + y))), (380, .inl (pi_sld 381 L xs)), (381, .inl (pi_aload 382 0)), (382, .inl (pi_iload 383 3)), (383, .inl (pi_const 384 (.int 2))), (384, .inl (pi_bin 385 (fun x y => x + y))), (385, .inl (pi_sld 386 L xs)), (386, .inr (.inl (20, 3, 8, 389))), (389, .inl (pi_aload 390 2)), (390, .inl (pi_aload 391 0)), (391, .inl (pi_iload 392 3)), (392, .inl (pi_const 393 (.int 1))), (393, .inl (pi_bin 394 (fun x y => x + y))), (394, .inl (pi_sld 395 L xs)), (395, .inl (pi_aload 396 0)), (396, .inl (pi_iload 397 3)), (397, .inl (pi_const 398 (.int 2))), (398, .inl (pi_bin 399 (fun x y => x + y))), (399, .inl (pi_sld 400 L xs)), (400, .inr (.inl (146, 3, 9, 403))), (403, .inl (pi_icmp 406 1061 (fun x y => x = y))), (406, .inl (pi_const 407 (.int 0))), (407, .inr (.inr pr_i)), (408, .inl (pi_aload 409 1)), (409, .inl (pi_aload 410 0)), (410, .inl (pi_iload 411 3)), (411, .inl (pi_const 412 (.int 1))), (412, .inl (pi_bin 413 (fun x y => x + y))), (413, .inl (pi_sld 414 L xs)), (414, .inl (pi_aload 415 0)), (415, .inl (pi_iload 416 3)), (416, .inl (pi_const 417 (.int 2))), (417, .inl (pi_bin 418 (fun x y => x + y))), (418, .inl (pi_sld 419 L xs)), (419, .inl (pi_aload 420 0)), (420, .inl (pi_iload 421 3)), (421, .inl (pi_const 422 (.int 3))), (422, .inl (pi_bin 423 (fun x y => x + y))), (423, .inl (pi_sld 424 L xs)), (424, .inr (.inl (42, 4, 8, 427))), (427, .inl (pi_aload 428 2)), (428, .inl (pi_aload 429 0)), (429, .inl (pi_iload 430 3)), (430, .inl (pi_const 431 (.int 1))), (431, .inl (pi_bin 432 (fun x y => x + y))), (432, .inl (pi_sld 433 L xs)), (433, .inl (pi_aload 434 0)), (434, .inl (pi_iload 435 3)), (435, .inl (pi_const 436 (.int 2))), (436, .inl (pi_bin 437 (fun x y => x + y))), (437, .inl (pi_sld 438 L xs)), (438, .inl (pi_aload 439 0)), (439, .inl (pi_iload 440 3)), (440, .inl (pi_const 441 (.int 3))), (441, .inl (pi_bin 442 (fun x y => x + y))), (442, .inl (pi_sld 443 L xs)), (443, .inr (.inl (153, 4, 9, 446))), (446, .inl (pi_icmp 449 1061 (fun x y => x = y))), (449, .inl (pi_const 450 (.int 0))), (450, .inr (.inr pr_i)), (451, .inl (pi_aload 452 1)), (452, .inl (pi_aload 453 0)), (453, .inl (pi_iload 454 3)), (454, .inl (pi_const 455 (.int 1))), (455, .inl (pi_bin 456 (fun x y => x + y))), (456, .inl (pi_sld 457 L xs)), (457, .inl (pi_aload 458 0)), (458, .inl (pi_iload 459 3)), (459, .inl (pi_const 460 (.int 2))), (460, .inl (pi_bin 461 (fun x y => x + y))), (461, .inl (pi_sld 462 L xs)), (462, .inl (pi_aload 463 0)), (463, .inl (pi_iload 464 3)), (464, .inl (pi_const 465 (.int 3))), (465, .inl (pi_bin 466 (fun x y => x + y))), (466, .inl (pi_sld 467 L xs)), (467, .inl (pi_aload 468 0)), (468, .inl (pi_iload 469 3)), (469, .inl (pi_const 470 (.int 4))), (470, .inl (pi_bin 471 (fun x y => x + y))), (471, .inl (pi_sld 472 L xs)), (472, .inr (.inl (45, 5, 8, 475))), (475, .inl (pi_aload 476 2)), (476, .inl (pi_aload 477 0)), (477, .inl (pi_iload 478 3)), (478, .inl (pi_const 479 (.int 1))), (479, .inl (pi_bin 480 (fun x y => x + y))), (480, .inl (pi_sld 481 L xs)), (481, .inl (pi_aload 482 0)), (482, .inl (pi_iload 483 3)), (483, .inl (pi_const 484 (.int 2))), (484, .inl (pi_bin 485 (fun x y => x + y))), (485, .inl (pi_sld 486 L xs)), (486, .inl (pi_aload 487 0)), (487, .inl (pi_iload 488 3)), (488, .inl (pi_const 489 (.int 3))), (489, .inl (pi_bin 490 (fun x y => x + y))), (490, .inl (pi_sld 491 L xs)), (491, .inl (pi_aload 492 0)), (492, .inl (pi_iload 493 3)), (493, .inl (pi_const 494 (.int 4))), (494, .inl (pi_bin 495 (fun x y => x + y))), (495, .inl (pi_sld 496 L xs)), (496, .inr (.inl (139, 5, 9, 499))), (499, .inl (pi_icmp 502 1061 (fun x y => x = y))), (502, .inl (pi_const 503 (.int 0))), (503, .inr (.inr pr_i)), (504, .inl (pi_aload 505 1)), (505, .inl (pi_aload 506 0)), (506, .inl (pi_iload 507 3)), (507, .inl (pi_const 508 (.int 1))), (508, .inl (pi_bin 509 (fun x y => x + y))), (509, .inl (pi_sld 510 L xs)), (510, .inl (pi_aload 511 0)), (511, .inl (pi_iload 512 3)), (512, .inl (pi_const 513 (.int 2))), (513, .inl (pi_bin 514 (fun x y => x + y))), (514, .inl (pi_sld 515 L xs)), (515, .inr (.inl (46, 3, 8, 518))), (518, .inl (pi_aload 519 2)), (519, .inl (pi_aload 520 0)), (520, .inl (pi_iload 521 3)), (521, .inl (pi_const 522 (.int 1))), (522, .inl (pi_bin 523 (fun x y => x + y))), (523, .inl (pi_sld 524 L xs)), (524, .inl (pi_aload 525 0)), (525, .inl (pi_iload 526 3)), (526, .inl (pi_const 527 (.int 2))), (527, .inl (pi_bin 528 (fun x y => x + y))), (528, .inl (pi_sld 529 L xs)), (529, .inr (.inl (142, 3, 9, 532))), (532, .inl (pi_icmp 535 1061 (fun x y => x = y))), (535, .inl (pi_const 536 (.int 0))), (536, .inr (.inr pr_i)), (537, .inl (pi_aload 538 1)), (538, .inl (pi_aload 539 0)), (539, .inl (pi_iload 540 3)), (540, .inl (pi_const 541 (.int 1))), (541, .inl (pi_bin 542 (fun x y => x + y))), (542, .inl (pi_sld 543 L xs)), (543, .inr (.inl (47, 2, 8, 546))), (546, .inl (pi_aload 547 2)), (547, .inl (pi_aload 548 0)), (548, .inl (pi_iload 549 3)), (549, .inl (pi_const 550 (.int 1))), (550, .inl (pi_bin 551 (fun x y => x + y))), (551, .inl (pi_sld 552 L xs)), (552, .inr (.inl (184, 2, 9, 555))), (555, .inl (pi_icmp 558 1061 (fun x y => x = y))), (558, .inl (pi_const 559 (.int 0))), (559, .inr (.inr pr_i)), (560, .inl (pi_aload 561 1)), (561, .inl (pi_aload 562 0)), (562, .inl (pi_iload 563 3)), (563, .inl (pi_const 564 (.int 1))), (564, .inl (pi_bin 565 (fun x y => x + y))), (565, .inl (pi_sld 566 L xs)), (566, .inl (pi_aload 567 0)), (567, .inl (pi_iload 568 3)), (568, .inl (pi_const 569 (.int 2))), (569, .inl (pi_bin 570 (fun x y => x + y))), (570, .inl (pi_sld 571 L xs)), (571, .inl (pi_aload 572 0)), (572, .inl (pi_iload 573 3)), (573, .inl (pi_const 574 (.int 3))), (574, .inl (pi_bin 575 (fun x y => x + y))), (575, .inl (pi_sld 576 L xs)), (576, .inr (.inl (63, 4, 8, 579))), (579, .inl (pi_aload 580 2)), (580, .inl (pi_aload 581 0)), (581, .inl (pi_iload 582 3)), (582, .inl (pi_const 583 (.int 1))), (583, .inl (pi_bin 584 (fun x y => x + y))), (584, .inl (pi_sld 585 L xs)), (585, .inl (pi_aload 586 0)), (586, .inl (pi_iload 587 3)), (587, .inl (pi_const 588 (.int 2))), (588, .inl (pi_bin 589 (fun x y => x + y))), (589, .inl (pi_sld 590 L xs)), (590, .inl (pi_aload 591 0)), (591, .inl (pi_iload 592 3)), (592, .inl (pi_const 593 (.int 3))), (593, .inl (pi_bin 594 (fun x y => x + y))), (594, .inl (pi_sld 595 L xs)), (595, .inr (.inl (154, 4, 9, 598))), (598, .inl (pi_icmp 601 1061 (fun x y => x = y))), (601, .inl (pi_const 602 (.int 0))), (602, .inr (.inr pr_i)), (603, .inl (pi_aload 604 1)), (604, .inl (pi_aload 605 0)), (605, .inl (pi_iload 606 3)), (606, .inl (pi_const 607 (.int 1))), (607, .inl (pi_bin 608 (fun x y => x + y))), (608, .inl (pi_sld 609 L xs)), (609, .inl (pi_aload 610 0)), (610, .inl (pi_iload 611 3)), (611, .inl (pi_const 612 (.int 2))), (612, .inl (pi_bin 613 (fun x y => x + y))), (613, .inl (pi_sld 614 L xs)), (614, .inr (.inl (64, 3, 8, 617))), (617, .inl (pi_aload 618 2)), (618, .inl (pi_aload 619 0)), (619, .inl (pi_iload 620 3)), (620, .inl (pi_const 621 (.int 1))), (621, .inl (pi_bin 622 (fun x y => x + y))), (622, .inl (pi_sld 623 L xs)), (623, .inl (pi_aload 624 0)), (624, .inl (pi_iload 625 3)), (625, .inl (pi_const 626 (.int 2))), (626, .inl (pi_bin 627 (fun x y => x + y))), (627, .inl (pi_sld 628 L xs)), (628, .inr (.inl (158, 3, 9, 631))), (631, .inl (pi_icmp 634 1061 (fun x y => x = y))), (634, .inl (pi_const 635 (.int 0))), (635, .inr (.inr pr_i)), (636, .inl (pi_aload 637 1)), (637, .inl (pi_aload 638 0)), (638, .inl (pi_iload 639 3)), (639, .inl (pi_const 640 (.int 1))), (640, .inl (pi_bin 641 (fun x y => x + y))), (641, .inl (pi_sld 642 L xs)), (642, .inl (pi_aload 643 0)), (643, .inl (pi_iload 644 3)), (644, .inl (pi_const 645 (.int 2))), (645, .inl (pi_bin 646 (fun x y => x + y))), (646, .inl (pi_sld 647 L xs)), (647, .inr (.inl (65, 3, 8, 650))), (650, .inl (pi_aload 651 2)), (651, .inl (pi_aload 652 0)), (652, .inl (pi_iload 653 3)), (653, .inl (pi_const 654 (.int 1))), (654, .inl (pi_bin 655 (fun x y => x + y))), (655, .inl (pi_sld 656 L xs)), (656, .inl (pi_aload 657 0)), (657, .inl (pi_iload 658 3)), (658, .inl (pi_const 659 (.int 2))), (659, .inl (pi_bin 660 (fun x y => x + y))), (660, .inl (pi_sld 661 L xs)), (661, .inr (.inl (160, 3, 9, 664))), (664, .inl (pi_icmp 667 1061 (fun x y => x = y))), (667, .inl (pi_const 668 (.int 0))), (668, .inr (.inr pr_i)), (669, .inl (pi_aload 670 1)), (670, .inl (pi_aload 671 0)), (671, .inl (pi_iload 672 3)), (672, .inl (pi_const 673 (.int 1))), (673, .inl (pi_bin 674 (fun x y => x + y))), (674, .inl (pi_sld 675 L xs)), (675, .inr (.inl (66, 2, 8, 678))), (678, .inl (pi_aload 679 2)), (679, .inl (pi_aload 680 0)), (680, .inl (pi_iload 681 3)), (681, .inl (pi_const 682 (.int 1))), (682, .inl (pi_bin 683 (fun x y => x + y))), (683, .inl (pi_sld 684 L xs)), (684, .inr (.inl (161, 2, 9, 687))), (687, .inl (pi_icmp 690 1061 (fun x y => x = y))), (690, .inl (pi_const 691 (.int 0))), (691, .inr (.inr pr_i)), (692, .inl (pi_aload 693 1)), (693, .inl (pi_aload 694 0)), (694, .inl (pi_iload 695 3)), (695, .inl (pi_const 696 (.int 1))), (696, .inl (pi_bin 697 (fun x y => x + y))), (697, .inl (pi_sld 698 L xs)), (698, .inl (pi_aload 699 0)), (699, .inl (pi_iload 700 3)), (700, .inl (pi_const 701 (.int 2))), (701, .inl (pi_bin 702 (fun x y => x + y))), (702, .inl (pi_sld 703 L xs)), (703, .inr (.inl (67, 3, 8, 706))), (706, .inl (pi_aload 707 2)), (707, .inl (pi_aload 708 0)), (708, .inl (pi_iload 709 3)), (709, .inl (pi_const 710 (.int 1))), (710, .inl (pi_bin 711 (fun x y => x + y))), (711, .inl (pi_sld 712 L xs)), (712, .inl (pi_aload 713 0)), (713, .inl (pi_iload 714 3)), (714, .inl (pi_const 715 (.int 2))), (715, .inl (pi_bin 716 (fun x y => x + y))), (716, .inl (pi_sld 717 L xs)), (717, .inr (.inl (166, 3, 9, 720))), (720, .inl (pi_icmp 723 1061 (fun x y => x = y))), (723, .inl (pi_const 724 (.int 0))), (724, .inr (.inr pr_i)), (725, .inl (pi_aload 726 1)), (726, .inl (pi_aload 727 0)), (727, .inl (pi_iload 728 3)), (728, .inl (pi_const 729 (.int 1))), (729, .inl (pi_bin 730 (fun x y => x + y))), (730, .inl (pi_sld 731 L xs)), (731, .inl (pi_aload 732 0)), (732, .inl (pi_iload 733 3)), (733, .inl (pi_const 734 (.int 2))), (734, .inl (pi_bin 735 (fun x y => x + y))), (735, .inl (pi_sld 736 L xs)), (736, .inl (pi_aload 737 0)), (737, .inl (pi_iload 738 3)), (738, .inl (pi_const 739 (.int 3))), (739, .inl (pi_bin 740 (fun x y => x + y))), (740, .inl (pi_sld 741 L xs)), (741, .inr (.inl (84, 4, 8, 744))), (744, .inl (pi_aload 745 2)), (745, .inl (pi_aload 746 0)), (746, .inl (pi_iload 747 3)), (747, .inl (pi_const 748 (.int 1))), (748, .inl (pi_bin 749 (fun x y => x + y))), (749, .inl (pi_sld 750 L xs)), (750, .inl (pi_aload 751 0)), (751, .inl (pi_iload 752 3)), (752, .inl (pi_const 753 (.int 2))), (753, .inl (pi_bin 754 (fun x y => x + y))), (754, .inl (pi_sld 755 L xs)), (755, .inl (pi_aload 756 0)), (756, .inl (pi_iload 757 3)), (757, .inl (pi_const 758 (.int 3))), (758, .inl (pi_bin 759 (fun x y => x + y))), (759, .inl (pi_sld 760 L xs)), (760, .inr (.inl (174, 4, 9, 763))), (763, .inl (pi_icmp 766 1061 (fun x y => x = y))), (766, .inl (pi_const 767 (.int 0))), (767, .inr (.inr pr_i)), (768, .inl (pi_aload 769 1)), (769, .inl (pi_aload 770 0)), (770, .inl (pi_iload 771 3)), (771, .inl (pi_const 772 (.int 1))), (772, .inl (pi_bin 773 (fun x y => x + y))), (773, .inl (pi_sld 774 L xs)), (774, .inr (.inl (86, 2, 8, 777))), (777, .inl (pi_aload 778 2)), (778, .inl (pi_aload 779 0)), (779, .inl (pi_iload 780 3)), (780, .inl (pi_const 781 (.int 1))), (781, .inl (pi_bin 782 (fun x y => x + y))), (782, .inl (pi_sld 783 L xs)), (783, .inr (.inl (175, 2, 9, 786))), (786, .inl (pi_icmp 789 1061 (fun x y => x = y))), (789, .inl (pi_const 790 (.int 0))), (790, .inr (.inr pr_i)), (791, .inl (pi_aload 792 1)), (792, .inl (pi_aload 793 0)), (793, .inl (pi_iload 794 3)), (794, .inl (pi_const 795 (.int 1))), (795, .inl (pi_bin 796 (fun x y => x + y))), (796, .inl (pi_sld 797 L xs)), (797, .inr (.inl (89, 2, 8, 800))), (800, .inl (pi_aload 801 2)), (801, .inl (pi_aload 802 0)), (802, .inl (pi_iload 803 3)), (803, .inl (pi_const 804 (.int 1))), (804, .inl (pi_bin 805 (fun x y => x + y))), (805, .inl (pi_sld 806 L xs)), (806, .inr (.inl (176, 2, 9, 809))), (809, .inl (pi_icmp 812 1061 (fun x y => x = y))), (812, .inl (pi_const 813 (.int 0))), (813, .inr (.inr pr_i)), (814, .inl (pi_aload 815 1)), (815, .inl (pi_aload 816 0)), (816, .inl (pi_iload 817 3)), (817, .inl (pi_const 818 (.int 1))), (818, .inl (pi_bin 819 (fun x y => x + y))), (819, .inl (pi_sld 820 L xs)), (820, .inl (pi_aload 821 0)), (821, .inl (pi_iload 822 3)), (822, .inl (pi_const 823 (.int 2))), (823, .inl (pi_bin 824 (fun x y => x + y))), (824, .inl (pi_sld 825 L xs)), (825, .inr (.inl (91, 3, 8, 828))), (828, .inl (pi_aload 829 2)), (829, .inl (pi_aload 830 0)), (830, .inl (pi_iload 831 3)), (831, .inl (pi_const 832 (.int 1))), (832, .inl (pi_bin 833 (fun x y => x + y))), (833, .inl (pi_sld 834 L xs)), (834, .inl (pi_aload 835 0)), (835, .inl (pi_iload 836 3)), (836, .inl (pi_const 837 (.int 2))), (837, .inl (pi_bin 838 (fun x y => x + y))), (838, .inl (pi_sld 839 L xs)), (839, .inr (.inl (178, 3, 9, 842))), (842, .inl (pi_icmp 845 1061 (fun x y => x = y))), (845, .inl (pi_const 846 (.int 0))), (846, .inr (.inr pr_i)), (847, .inl (pi_aload 848 1)), (848, .inl (pi_aload 849 0)), (849, .inl (pi_iload 850 3)), (850, .inl (pi_const 851 (.int 1))), (851, .inl (pi_bin 852 (fun x y => x + y))), (852, .inl (pi_sld 853 L xs)), (853, .inr (.inl (94, 2, 8, 856))), (856, .inl (pi_aload 857 2)), (857, .inl (pi_aload 858 0)), (858, .inl (pi_iload 859 3)), (859, .inl (pi_const 860 (.int 1))), (860, .inl (pi_bin 861 (fun x y => x + y))), (861, .inl (pi_sld 862 L xs)), (862, .inr (.inl (179, 2, 9, 865))), (865, .inl (pi_icmp 868 1061 (fun x y => x = y))), (868, .inl (pi_const 869 (.int 0))), (869, .inr (.inr pr_i)), (870, .inl (pi_aload 871 1)), (871, .inr (.inl (96, 1, 8, 874))), (874, .inl (pi_aload 875 2)), (875, .inr (.inl (180, 1, 9, 878))), (878, .inl (pi_icmp 881 1061 (fun x y => x = y))), (881, .inl (pi_const 882 (.int 0))), (882, .inr (.inr pr_i)), (883, .inl (pi_aload 884 1)), (884, .inl (pi_aload 885 0)), (885, .inl (pi_iload 886 3)), (886, .inl (pi_const 887 (.int 1))), (887, .inl (pi_bin 888 (fun x y => x + y))), (888, .inl (pi_sld 889 L xs)), (889, .inl (pi_aload 890 0)), (890, .inl (pi_iload 891 3)), (891, .inl (pi_const 892 (.int 2))), (892, .inl (pi_bin 893 (fun x y => x + y))), (893, .inl (pi_sld 894 L xs)), (894, .inl (pi_aload 895 0)), (895, .inl (pi_iload 896 3)), (896, .inl (pi_const 897 (.int 3))), (897, .inl (pi_bin 898 (fun x y => x + y))), (898, .inl (pi_sld 899 L xs)), (899, .inr (.inl (97, 4, 8, 902))), (902, .inl (pi_aload 903 2)), (903, .inl (pi_aload 904 0)), (904, .inl (pi_iload 905 3)), (905, .inl (pi_const 906 (.int 1))), (906, .inl (pi_bin 907 (fun x y => x + y))), (907, .inl (pi_sld 908 L xs)), (908, .inl (pi_aload 909 0)), (909, .inl (pi_iload 910 3)), (910, .inl (pi_const 911 (.int 2))), (911, .inl (pi_bin 912 (fun x y => x + y))), (912, .inl (pi_sld 913 L xs)), (913, .inl (pi_aload 914 0)), (914, .inl (pi_iload 915 3)), (915, .inl (pi_const 916 (.int 3))), (916, .inl (pi_bin 917 (fun x y => x + y))), (917, .inl (pi_sld 918 L xs)), (918, .inr (.inl (181, 4, 9, 921))), (921, .inl (pi_icmp 924 1061 (fun x y => x = y))), (924, .inl (pi_const 925 (.int 0))), (925, .inr (.inr pr_i)), (926, .inl (pi_aload 927 1)), (927, .inl (pi_aload 928 0)), (928, .inl (pi_iload 929 3)), (929, .inl (pi_const 930 (.int 1))), (930, .inl (pi_bin 931 (fun x y => x + y))), (931, .inl (pi_sld 932 L xs)), (932, .inr (.inl (101, 2, 8, 935))), (935, .inl (pi_aload 936 2)), (936, .inl (pi_aload 937 0)), (937, .inl (pi_iload 938 3)), (938, .inl (pi_const 939 (.int 1))), (939, .inl (pi_bin 940 (fun x y => x + y))), (940, .inl (pi_sld 941 L xs)), (941, .inr (.inl (183, 2, 9, 944))), (944, .inl (pi_icmp 947 1061 (fun x y => x = y))), (947, .inl (pi_const 948 (.int 0))), (948, .inr (.inr pr_i)), (949, .inl (pi_aload 950 1)), (950, .inl (pi_aload 951 0)), (951, .inl (pi_iload 952 3)), (952, .inl (pi_const 953 (.int 1))), (953, .inl (pi_bin 954 (fun x y => x + y))), (954, .inl (pi_sld 955 L xs)), (955, .inl (pi_aload 956 0)), (956, .inl (pi_iload 957 3)), (957, .inl (pi_const 958 (.int 2))), (958, .inl (pi_bin 959 (fun x y => x + y))), (959, .inl (pi_sld 960 L xs)), (960, .inl (pi_i2l 961)), (961, .inl (pi_const 963 (.int 32))), (963, .inl (pi_lsh 964 (fun x y => x <<< (y.toInt64 &&& 63)))), (964, .inl (pi_aload 965 0)), (965, .inl (pi_iload 966 3)), (966, .inl (pi_const 967 (.int 3))), (967, .inl (pi_bin 968 (fun x y => x + y))), (968, .inl (pi_sld 969 L xs)), (969, .inl (pi_i2l 970)), (970, .inl (pi_const 973 (.long 4294967295))), (973, .inl (pi_lbin 974 (fun x y => x &&& y))), (974, .inl (pi_lbin 975 (fun x y => x ||| y))), (975, .inr (.inl (103, 3, 8, 978))), (978, .inl (pi_aload 979 2)), (979, .inl (pi_aload 980 0)), (980, .inl (pi_iload 981 3)), (981, .inl (pi_const 982 (.int 1))), (982, .inl (pi_bin 983 (fun x y => x + y))), (983, .inl (pi_sld 984 L xs)), (984, .inl (pi_aload 985 0)), (985, .inl (pi_iload 986 3)), (986, .inl (pi_const 987 (.int 2))), (987, .inl (pi_bin 988 (fun x y => x + y))), (988, .inl (pi_sld 989 L xs)), (989, .inl (pi_i2l 990)), (990, .inl (pi_const 992 (.int 32))), (992, .inl (pi_lsh 993 (fun x y => x <<< (y.toInt64 &&& 63)))), (993, .inl (pi_aload 994 0)), (994, .inl (pi_iload 995 3)), (995, .inl (pi_const 996 (.int 3))), (996, .inl (pi_bin 997 (fun x y => x + y))), (997, .inl (pi_sld 998 L xs)), (998, .inl (pi_i2l 999)), (999, .inl (pi_const 1002 (.long 4294967295))), (1002, .inl (pi_lbin 1003 (fun x y => x &&& y))), (1003, .inl (pi_lbin 1004 (fun x y => x ||| y))), (1004, .inr (.inl (185, 3, 9, 1007))), (1007, .inl (pi_icmp 1010 1061 (fun x y => x = y))), (1010, .inl (pi_const 1011 (.int 0))), (1011, .inr (.inr pr_i)), (1012, .inl (pi_aload 1013 1)), (1013, .inr (.inl (105, 1, 8, 1016))), (1016, .inl (pi_aload 1017 2)), (1017, .inr (.inl (186, 1, 9, 1020))), (1020, .inl (pi_icmp 1023 1061 (fun x y => x = y))), (1023, .inl (pi_const 1024 (.int 0))), (1024, .inr (.inr pr_i)), (1025, .inl (pi_aload 1026 1)), (1026, .inr (.inl (126, 1, 8, 1029))), (1029, .inl (pi_aload 1030 2)), (1030, .inr (.inl (194, 1, 9, 1033))), (1033, .inl (pi_icmp 1036 1061 (fun x y => x = y))), (1036, .inl (pi_const 1037 (.int 0))), (1037, .inr (.inr pr_i)), (1038, .inl (pi_aload 1039 1)), (1039, .inl (pi_aload 1040 0)), (1040, .inl (pi_iload 1041 3)), (1041, .inl (pi_const 1042 (.int 1))), (1042, .inl (pi_bin 1043 (fun x y => x + y))), (1043, .inl (pi_sld 1044 L xs)), (1044, .inr (.inl (127, 2, 8, 1047))), (1047, .inl (pi_aload 1048 2)), (1048, .inl (pi_aload 1049 0)), (1049, .inl (pi_iload 1050 3)), (1050, .inl (pi_const 1051 (.int 1))), (1051, .inl (pi_bin 1052 (fun x y => x + y))), (1052, .inl (pi_sld 1053 L xs)), (1053, .inr (.inl (195, 2, 9, 1056))), (1056, .inl (pi_icmp 1059 1061 (fun x y => x = y))), (1059, .inl (pi_const 1060 (.int 0))), (1060, .inr (.inr pr_i)), (1061, .inl (pi_iinc 1064 3 5)), (1064, .inl (pi_goto 18)), (1067, .inl (pi_const 1068 (.int 1))), (1068, .inr (.inr pr_i))]
set_option maxRecDepth 40000 in
set_option maxHeartbeats 4000000 in
theorem ok_law (l : Launch) (L : Nat) (xs : Nat → Int32) : px_okL l 9 L xs RL code 4 (tb_law L xs) :=
  ⟨px_SpL.of (px_Sp.of (ps_iconst dL_law_16 (by decide))),
   px_SpL.of (px_Sp.of (ps_istore_n dL_law_17 rfl (by decide))),
   px_SpL.of (px_Sp.of (ps_iload_n dL_law_18 rfl)),
   px_SpL.of (px_Sp.of (ps_aload_n dL_law_19 rfl)),
   ps_scl dL_law_20,
   px_SpL.of (px_Sp.of (ps_iconst dL_law_21 (by decide))),
   px_SpL.of (px_Sp.of (ps_isub dL_law_22)),
   px_SpL.of (px_Sp.of (ps_icmp_gt dL_law_23 (by decide))),
   px_SpL.of (px_Sp.of (ps_aload_n dL_law_26 rfl)),
   px_SpL.of (px_Sp.of (ps_iload_n dL_law_27 rfl)),
   ps_sld dL_law_28,
   px_SpL.of (px_Sp.of (ps_bipush dL_law_29 (by decide))),
   px_SpL.of (px_Sp.of (ps_iand dL_law_31)),
   px_SpL.of (px_Sp.of (ps_tsw dL_law_32 (by decide) (by decide))),
   px_SpL.of (px_Sp.of (ps_aload_n dL_law_164 rfl)),
   px_SpL.of (px_Sp.of (ps_aload_n dL_law_165 rfl)),
   px_SpL.of (px_Sp.of (ps_iload_n dL_law_166 rfl)),
   px_SpL.of (px_Sp.of (ps_iconst dL_law_167 (by decide))),
   px_SpL.of (px_Sp.of (ps_iadd dL_law_168)),
   ps_sld dL_law_169,
   ps_callV (px_mets l 9 1 (by decide)) (C := RX8) (T := TX8) (N := 10) (ci := 7) rfl rfl (fc_1 _ _) wm_RL_13 wi_yX8_word wl_yX8_word dL_law_170,
   px_SpL.of (px_Sp.of (ps_aload_n dL_law_173 rfl)),
   px_SpL.of (px_Sp.of (ps_aload_n dL_law_174 rfl)),
   px_SpL.of (px_Sp.of (ps_iload_n dL_law_175 rfl)),
   px_SpL.of (px_Sp.of (ps_iconst dL_law_176 (by decide))),
   px_SpL.of (px_Sp.of (ps_iadd dL_law_177)),
   ps_sld dL_law_178,
   ps_callV (px_mets l 9 129 (by decide)) (C := RX9) (T := TX9) (N := 36) (ci := 8) rfl rfl (fc_129 _ _) wm_RL_17 wi_yX9_word wl_yX9_word dL_law_179,
   px_SpL.of (px_Sp.of (ps_icmp_eq dL_law_182 (by decide))),
   px_SpL.of (px_Sp.of (ps_iconst dL_law_185 (by decide))),
   ⟨dL_law_186, rfl⟩,
   px_SpL.of (px_Sp.of (ps_aload_n dL_law_187 rfl)),
   px_SpL.of (px_Sp.of (ps_aload_n dL_law_188 rfl)),
   px_SpL.of (px_Sp.of (ps_iload_n dL_law_189 rfl)),
   px_SpL.of (px_Sp.of (ps_iconst dL_law_190 (by decide))),
   px_SpL.of (px_Sp.of (ps_iadd dL_law_191)),
   ps_sld dL_law_192,
   px_SpL.of (px_Sp.of (ps_aload_n dL_law_193 rfl)),
   px_SpL.of (px_Sp.of (ps_iload_n dL_law_194 rfl)),
   px_SpL.of (px_Sp.of (ps_iconst dL_law_195 (by decide))),
   px_SpL.of (px_Sp.of (ps_iadd dL_law_196)),
   ps_sld dL_law_197,
   px_SpL.of (px_Sp.of (ps_aload_n dL_law_198 rfl)),
   px_SpL.of (px_Sp.of (ps_iload_n dL_law_199 rfl)),
   px_SpL.of (px_Sp.of (ps_iconst dL_law_200 (by decide))),
   px_SpL.of (px_Sp.of (ps_iadd dL_law_201)),
   ps_sld dL_law_202,
   ps_callV (px_mets l 9 3 (by decide)) (C := RX8) (T := TX8) (N := 10) (ci := 7) rfl rfl (fc_3 _ _) wm_RL_18 wi_yX8_letter wl_yX8_letter dL_law_203,
   px_SpL.of (px_Sp.of (ps_aload_n dL_law_206 rfl)),
   px_SpL.of (px_Sp.of (ps_aload_n dL_law_207 rfl)),
   px_SpL.of (px_Sp.of (ps_iload_n dL_law_208 rfl)),
   px_SpL.of (px_Sp.of (ps_iconst dL_law_209 (by decide))),
   px_SpL.of (px_Sp.of (ps_iadd dL_law_210)),
   ps_sld dL_law_211,
   px_SpL.of (px_Sp.of (ps_aload_n dL_law_212 rfl)),
   px_SpL.of (px_Sp.of (ps_iload_n dL_law_213 rfl)),
   px_SpL.of (px_Sp.of (ps_iconst dL_law_214 (by decide))),
   px_SpL.of (px_Sp.of (ps_iadd dL_law_215)),
   ps_sld dL_law_216,
   px_SpL.of (px_Sp.of (ps_aload_n dL_law_217 rfl)),
   px_SpL.of (px_Sp.of (ps_iload_n dL_law_218 rfl)),
   px_SpL.of (px_Sp.of (ps_iconst dL_law_219 (by decide))),
   px_SpL.of (px_Sp.of (ps_iadd dL_law_220)),
   ps_sld dL_law_221,
   ps_callV (px_mets l 9 131 (by decide)) (C := RX9) (T := TX9) (N := 36) (ci := 8) rfl rfl (fc_131 _ _) wm_RL_22 wi_yX9_letter wl_yX9_letter dL_law_222,
   px_SpL.of (px_Sp.of (ps_icmp_eq dL_law_225 (by decide))),
   px_SpL.of (px_Sp.of (ps_iconst dL_law_228 (by decide))),
   ⟨dL_law_229, rfl⟩,
   px_SpL.of (px_Sp.of (ps_aload_n dL_law_230 rfl)),
   px_SpL.of (px_Sp.of (ps_aload_n dL_law_231 rfl)),
   px_SpL.of (px_Sp.of (ps_iload_n dL_law_232 rfl)),
   px_SpL.of (px_Sp.of (ps_iconst dL_law_233 (by decide))),
   px_SpL.of (px_Sp.of (ps_iadd dL_law_234)),
   ps_sld dL_law_235,
   px_SpL.of (px_Sp.of (ps_aload_n dL_law_236 rfl)),
   px_SpL.of (px_Sp.of (ps_iload_n dL_law_237 rfl)),
   px_SpL.of (px_Sp.of (ps_iconst dL_law_238 (by decide))),
   px_SpL.of (px_Sp.of (ps_iadd dL_law_239)),
   ps_sld dL_law_240,
   ps_callV (px_mets l 9 9 (by decide)) (C := RX8) (T := TX8) (N := 10) (ci := 7) rfl rfl (fc_9 _ _) wm_RL_23 wi_yX8_line wl_yX8_line dL_law_241,
   px_SpL.of (px_Sp.of (ps_aload_n dL_law_244 rfl)),
   px_SpL.of (px_Sp.of (ps_aload_n dL_law_245 rfl)),
   px_SpL.of (px_Sp.of (ps_iload_n dL_law_246 rfl)),
   px_SpL.of (px_Sp.of (ps_iconst dL_law_247 (by decide))),
   px_SpL.of (px_Sp.of (ps_iadd dL_law_248)),
   ps_sld dL_law_249,
   px_SpL.of (px_Sp.of (ps_aload_n dL_law_250 rfl)),
   px_SpL.of (px_Sp.of (ps_iload_n dL_law_251 rfl)),
   px_SpL.of (px_Sp.of (ps_iconst dL_law_252 (by decide))),
   px_SpL.of (px_Sp.of (ps_iadd dL_law_253)),
   ps_sld dL_law_254,
   ps_callV (px_mets l 9 133 (by decide)) (C := RX9) (T := TX9) (N := 36) (ci := 8) rfl rfl (fc_133 _ _) wm_RL_27 wi_yX9_line wl_yX9_line dL_law_255,
   px_SpL.of (px_Sp.of (ps_icmp_eq dL_law_258 (by decide))),
   px_SpL.of (px_Sp.of (ps_iconst dL_law_261 (by decide))),
   ⟨dL_law_262, rfl⟩,
   px_SpL.of (px_Sp.of (ps_aload_n dL_law_263 rfl)),
   px_SpL.of (px_Sp.of (ps_aload_n dL_law_264 rfl)),
   px_SpL.of (px_Sp.of (ps_iload_n dL_law_265 rfl)),
   px_SpL.of (px_Sp.of (ps_iconst dL_law_266 (by decide))),
   px_SpL.of (px_Sp.of (ps_iadd dL_law_267)),
   ps_sld dL_law_268,
   px_SpL.of (px_Sp.of (ps_aload_n dL_law_269 rfl)),
   px_SpL.of (px_Sp.of (ps_iload_n dL_law_270 rfl)),
   px_SpL.of (px_Sp.of (ps_iconst dL_law_271 (by decide))),
   px_SpL.of (px_Sp.of (ps_iadd dL_law_272)),
   ps_sld dL_law_273,
   px_SpL.of (px_Sp.of (ps_aload_n dL_law_274 rfl)),
   px_SpL.of (px_Sp.of (ps_iload_n dL_law_275 rfl)),
   px_SpL.of (px_Sp.of (ps_iconst dL_law_276 (by decide))),
   px_SpL.of (px_Sp.of (ps_iadd dL_law_277)),
   ps_sld dL_law_278,
   ps_callV (px_mets l 9 13 (by decide)) (C := RX8) (T := TX8) (N := 10) (ci := 7) rfl rfl (fc_13 _ _) wm_RL_28 wi_yX8_answer wl_yX8_answer dL_law_279,
   px_SpL.of (px_Sp.of (ps_aload_n dL_law_282 rfl)),
   px_SpL.of (px_Sp.of (ps_aload_n dL_law_283 rfl)),
   px_SpL.of (px_Sp.of (ps_iload_n dL_law_284 rfl)),
   px_SpL.of (px_Sp.of (ps_iconst dL_law_285 (by decide))),
   px_SpL.of (px_Sp.of (ps_iadd dL_law_286)),
   ps_sld dL_law_287,
   px_SpL.of (px_Sp.of (ps_aload_n dL_law_288 rfl)),
   px_SpL.of (px_Sp.of (ps_iload_n dL_law_289 rfl)),
   px_SpL.of (px_Sp.of (ps_iconst dL_law_290 (by decide))),
   px_SpL.of (px_Sp.of (ps_iadd dL_law_291)),
   ps_sld dL_law_292,
   px_SpL.of (px_Sp.of (ps_aload_n dL_law_293 rfl)),
   px_SpL.of (px_Sp.of (ps_iload_n dL_law_294 rfl)),
   px_SpL.of (px_Sp.of (ps_iconst dL_law_295 (by decide))),
   px_SpL.of (px_Sp.of (ps_iadd dL_law_296)),
   ps_sld dL_law_297,
   ps_callV (px_mets l 9 134 (by decide)) (C := RX9) (T := TX9) (N := 36) (ci := 8) rfl rfl (fc_134 _ _) wm_RL_31 wi_yX9_answer wl_yX9_answer dL_law_298,
   px_SpL.of (px_Sp.of (ps_icmp_eq dL_law_301 (by decide))),
   px_SpL.of (px_Sp.of (ps_iconst dL_law_304 (by decide))),
   ⟨dL_law_305, rfl⟩,
   px_SpL.of (px_Sp.of (ps_aload_n dL_law_306 rfl)),
   px_SpL.of (px_Sp.of (ps_aload_n dL_law_307 rfl)),
   px_SpL.of (px_Sp.of (ps_iload_n dL_law_308 rfl)),
   px_SpL.of (px_Sp.of (ps_iconst dL_law_309 (by decide))),
   px_SpL.of (px_Sp.of (ps_iadd dL_law_310)),
   ps_sld dL_law_311,
   ps_callV (px_mets l 9 15 (by decide)) (C := RX8) (T := TX8) (N := 10) (ci := 7) rfl rfl (fc_15 _ _) wm_RL_32 wi_yX8_take wl_yX8_take dL_law_312,
   px_SpL.of (px_Sp.of (ps_aload_n dL_law_315 rfl)),
   px_SpL.of (px_Sp.of (ps_aload_n dL_law_316 rfl)),
   px_SpL.of (px_Sp.of (ps_iload_n dL_law_317 rfl)),
   px_SpL.of (px_Sp.of (ps_iconst dL_law_318 (by decide))),
   px_SpL.of (px_Sp.of (ps_iadd dL_law_319)),
   ps_sld dL_law_320,
   ps_callV (px_mets l 9 136 (by decide)) (C := RX9) (T := TX9) (N := 36) (ci := 8) rfl rfl (fc_136 _ _) wm_RL_35 wi_yX9_take wl_yX9_take dL_law_321,
   px_SpL.of (px_Sp.of (ps_icmp_eq dL_law_324 (by decide))),
   px_SpL.of (px_Sp.of (ps_iconst dL_law_327 (by decide))),
   ⟨dL_law_328, rfl⟩,
   px_SpL.of (px_Sp.of (ps_aload_n dL_law_329 rfl)),
   px_SpL.of (px_Sp.of (ps_aload_n dL_law_330 rfl)),
   px_SpL.of (px_Sp.of (ps_iload_n dL_law_331 rfl)),
   px_SpL.of (px_Sp.of (ps_iconst dL_law_332 (by decide))),
   px_SpL.of (px_Sp.of (ps_iadd dL_law_333)),
   ps_sld dL_law_334,
   ps_callV (px_mets l 9 18 (by decide)) (C := RX8) (T := TX8) (N := 10) (ci := 7) rfl rfl (fc_18 _ _) wm_RL_36 wi_yX8_put wl_yX8_put dL_law_335,
   px_SpL.of (px_Sp.of (ps_aload_n dL_law_338 rfl)),
   px_SpL.of (px_Sp.of (ps_aload_n dL_law_339 rfl)),
   px_SpL.of (px_Sp.of (ps_iload_n dL_law_340 rfl)),
   px_SpL.of (px_Sp.of (ps_iconst dL_law_341 (by decide))),
   px_SpL.of (px_Sp.of (ps_iadd dL_law_342)),
   ps_sld dL_law_343,
   ps_callV (px_mets l 9 137 (by decide)) (C := RX9) (T := TX9) (N := 36) (ci := 8) rfl rfl (fc_137 _ _) wm_RL_39 wi_yX9_put wl_yX9_put dL_law_344,
   px_SpL.of (px_Sp.of (ps_icmp_eq dL_law_347 (by decide))),
   px_SpL.of (px_Sp.of (ps_iconst dL_law_350 (by decide))),
   ⟨dL_law_351, rfl⟩,
   px_SpL.of (px_Sp.of (ps_aload_n dL_law_352 rfl)),
   px_SpL.of (px_Sp.of (ps_aload_n dL_law_353 rfl)),
   px_SpL.of (px_Sp.of (ps_iload_n dL_law_354 rfl)),
   px_SpL.of (px_Sp.of (ps_iconst dL_law_355 (by decide))),
   px_SpL.of (px_Sp.of (ps_iadd dL_law_356)),
   ps_sld dL_law_357,
   ps_callV (px_mets l 9 19 (by decide)) (C := RX8) (T := TX8) (N := 10) (ci := 7) rfl rfl (fc_19 _ _) wm_RL_40 wi_yX8_known wl_yX8_known dL_law_358,
   px_SpL.of (px_Sp.of (ps_aload_n dL_law_361 rfl)),
   px_SpL.of (px_Sp.of (ps_aload_n dL_law_362 rfl)),
   px_SpL.of (px_Sp.of (ps_iload_n dL_law_363 rfl)),
   px_SpL.of (px_Sp.of (ps_iconst dL_law_364 (by decide))),
   px_SpL.of (px_Sp.of (ps_iadd dL_law_365)),
   ps_sld dL_law_366,
   ps_callV (px_mets l 9 138 (by decide)) (C := RX9) (T := TX9) (N := 36) (ci := 8) rfl rfl (fc_138 _ _) wm_RL_43 wi_yX9_known wl_yX9_known dL_law_367,
   px_SpL.of (px_Sp.of (ps_icmp_eq dL_law_370 (by decide))),
   px_SpL.of (px_Sp.of (ps_iconst dL_law_373 (by decide))),
   ⟨dL_law_374, rfl⟩,
   px_SpL.of (px_Sp.of (ps_aload_n dL_law_375 rfl)),
   px_SpL.of (px_Sp.of (ps_aload_n dL_law_376 rfl)),
   px_SpL.of (px_Sp.of (ps_iload_n dL_law_377 rfl)),
   px_SpL.of (px_Sp.of (ps_iconst dL_law_378 (by decide))),
   px_SpL.of (px_Sp.of (ps_iadd dL_law_379)),
   ps_sld dL_law_380,
   px_SpL.of (px_Sp.of (ps_aload_n dL_law_381 rfl)),
   px_SpL.of (px_Sp.of (ps_iload_n dL_law_382 rfl)),
   px_SpL.of (px_Sp.of (ps_iconst dL_law_383 (by decide))),
   px_SpL.of (px_Sp.of (ps_iadd dL_law_384)),
   ps_sld dL_law_385,
   ps_callV (px_mets l 9 20 (by decide)) (C := RX8) (T := TX8) (N := 10) (ci := 7) rfl rfl (fc_20 _ _) wm_RL_44 wi_yX8_about wl_yX8_about dL_law_386,
   px_SpL.of (px_Sp.of (ps_aload_n dL_law_389 rfl)),
   px_SpL.of (px_Sp.of (ps_aload_n dL_law_390 rfl)),
   px_SpL.of (px_Sp.of (ps_iload_n dL_law_391 rfl)),
   px_SpL.of (px_Sp.of (ps_iconst dL_law_392 (by decide))),
   px_SpL.of (px_Sp.of (ps_iadd dL_law_393)),
   ps_sld dL_law_394,
   px_SpL.of (px_Sp.of (ps_aload_n dL_law_395 rfl)),
   px_SpL.of (px_Sp.of (ps_iload_n dL_law_396 rfl)),
   px_SpL.of (px_Sp.of (ps_iconst dL_law_397 (by decide))),
   px_SpL.of (px_Sp.of (ps_iadd dL_law_398)),
   ps_sld dL_law_399,
   ps_callV (px_mets l 9 146 (by decide)) (C := RX9) (T := TX9) (N := 36) (ci := 8) rfl rfl (fc_146 _ _) wm_RL_47 wi_yX9_about wl_yX9_about dL_law_400,
   px_SpL.of (px_Sp.of (ps_icmp_eq dL_law_403 (by decide))),
   px_SpL.of (px_Sp.of (ps_iconst dL_law_406 (by decide))),
   ⟨dL_law_407, rfl⟩,
   px_SpL.of (px_Sp.of (ps_aload_n dL_law_408 rfl)),
   px_SpL.of (px_Sp.of (ps_aload_n dL_law_409 rfl)),
   px_SpL.of (px_Sp.of (ps_iload_n dL_law_410 rfl)),
   px_SpL.of (px_Sp.of (ps_iconst dL_law_411 (by decide))),
   px_SpL.of (px_Sp.of (ps_iadd dL_law_412)),
   ps_sld dL_law_413,
   px_SpL.of (px_Sp.of (ps_aload_n dL_law_414 rfl)),
   px_SpL.of (px_Sp.of (ps_iload_n dL_law_415 rfl)),
   px_SpL.of (px_Sp.of (ps_iconst dL_law_416 (by decide))),
   px_SpL.of (px_Sp.of (ps_iadd dL_law_417)),
   ps_sld dL_law_418,
   px_SpL.of (px_Sp.of (ps_aload_n dL_law_419 rfl)),
   px_SpL.of (px_Sp.of (ps_iload_n dL_law_420 rfl)),
   px_SpL.of (px_Sp.of (ps_iconst dL_law_421 (by decide))),
   px_SpL.of (px_Sp.of (ps_iadd dL_law_422)),
   ps_sld dL_law_423,
   ps_callV (px_mets l 9 42 (by decide)) (C := RX8) (T := TX8) (N := 10) (ci := 7) rfl rfl (fc_42 _ _) wm_RL_48 wi_yX8_told wl_yX8_told dL_law_424,
   px_SpL.of (px_Sp.of (ps_aload_n dL_law_427 rfl)),
   px_SpL.of (px_Sp.of (ps_aload_n dL_law_428 rfl)),
   px_SpL.of (px_Sp.of (ps_iload_n dL_law_429 rfl)),
   px_SpL.of (px_Sp.of (ps_iconst dL_law_430 (by decide))),
   px_SpL.of (px_Sp.of (ps_iadd dL_law_431)),
   ps_sld dL_law_432,
   px_SpL.of (px_Sp.of (ps_aload_n dL_law_433 rfl)),
   px_SpL.of (px_Sp.of (ps_iload_n dL_law_434 rfl)),
   px_SpL.of (px_Sp.of (ps_iconst dL_law_435 (by decide))),
   px_SpL.of (px_Sp.of (ps_iadd dL_law_436)),
   ps_sld dL_law_437,
   px_SpL.of (px_Sp.of (ps_aload_n dL_law_438 rfl)),
   px_SpL.of (px_Sp.of (ps_iload_n dL_law_439 rfl)),
   px_SpL.of (px_Sp.of (ps_iconst dL_law_440 (by decide))),
   px_SpL.of (px_Sp.of (ps_iadd dL_law_441)),
   ps_sld dL_law_442,
   ps_callV (px_mets l 9 153 (by decide)) (C := RX9) (T := TX9) (N := 36) (ci := 8) rfl rfl (fc_153 _ _) wm_RL_51 wi_yX9_told wl_yX9_told dL_law_443,
   px_SpL.of (px_Sp.of (ps_icmp_eq dL_law_446 (by decide))),
   px_SpL.of (px_Sp.of (ps_iconst dL_law_449 (by decide))),
   ⟨dL_law_450, rfl⟩,
   px_SpL.of (px_Sp.of (ps_aload_n dL_law_451 rfl)),
   px_SpL.of (px_Sp.of (ps_aload_n dL_law_452 rfl)),
   px_SpL.of (px_Sp.of (ps_iload_n dL_law_453 rfl)),
   px_SpL.of (px_Sp.of (ps_iconst dL_law_454 (by decide))),
   px_SpL.of (px_Sp.of (ps_iadd dL_law_455)),
   ps_sld dL_law_456,
   px_SpL.of (px_Sp.of (ps_aload_n dL_law_457 rfl)),
   px_SpL.of (px_Sp.of (ps_iload_n dL_law_458 rfl)),
   px_SpL.of (px_Sp.of (ps_iconst dL_law_459 (by decide))),
   px_SpL.of (px_Sp.of (ps_iadd dL_law_460)),
   ps_sld dL_law_461,
   px_SpL.of (px_Sp.of (ps_aload_n dL_law_462 rfl)),
   px_SpL.of (px_Sp.of (ps_iload_n dL_law_463 rfl)),
   px_SpL.of (px_Sp.of (ps_iconst dL_law_464 (by decide))),
   px_SpL.of (px_Sp.of (ps_iadd dL_law_465)),
   ps_sld dL_law_466,
   px_SpL.of (px_Sp.of (ps_aload_n dL_law_467 rfl)),
   px_SpL.of (px_Sp.of (ps_iload_n dL_law_468 rfl)),
   px_SpL.of (px_Sp.of (ps_iconst dL_law_469 (by decide))),
   px_SpL.of (px_Sp.of (ps_iadd dL_law_470)),
   ps_sld dL_law_471,
   ps_callV (px_mets l 9 45 (by decide)) (C := RX8) (T := TX8) (N := 10) (ci := 7) rfl rfl (fc_45 _ _) wm_RL_52 wi_yX8_differ wl_yX8_differ dL_law_472,
   px_SpL.of (px_Sp.of (ps_aload_n dL_law_475 rfl)),
   px_SpL.of (px_Sp.of (ps_aload_n dL_law_476 rfl)),
   px_SpL.of (px_Sp.of (ps_iload_n dL_law_477 rfl)),
   px_SpL.of (px_Sp.of (ps_iconst dL_law_478 (by decide))),
   px_SpL.of (px_Sp.of (ps_iadd dL_law_479)),
   ps_sld dL_law_480,
   px_SpL.of (px_Sp.of (ps_aload_n dL_law_481 rfl)),
   px_SpL.of (px_Sp.of (ps_iload_n dL_law_482 rfl)),
   px_SpL.of (px_Sp.of (ps_iconst dL_law_483 (by decide))),
   px_SpL.of (px_Sp.of (ps_iadd dL_law_484)),
   ps_sld dL_law_485,
   px_SpL.of (px_Sp.of (ps_aload_n dL_law_486 rfl)),
   px_SpL.of (px_Sp.of (ps_iload_n dL_law_487 rfl)),
   px_SpL.of (px_Sp.of (ps_iconst dL_law_488 (by decide))),
   px_SpL.of (px_Sp.of (ps_iadd dL_law_489)),
   ps_sld dL_law_490,
   px_SpL.of (px_Sp.of (ps_aload_n dL_law_491 rfl)),
   px_SpL.of (px_Sp.of (ps_iload_n dL_law_492 rfl)),
   px_SpL.of (px_Sp.of (ps_iconst dL_law_493 (by decide))),
   px_SpL.of (px_Sp.of (ps_iadd dL_law_494)),
   ps_sld dL_law_495,
   ps_callV (px_mets l 9 139 (by decide)) (C := RX9) (T := TX9) (N := 36) (ci := 8) rfl rfl (fc_139 _ _) wm_RL_56 wi_yX9_differ wl_yX9_differ dL_law_496,
   px_SpL.of (px_Sp.of (ps_icmp_eq dL_law_499 (by decide))),
   px_SpL.of (px_Sp.of (ps_iconst dL_law_502 (by decide))),
   ⟨dL_law_503, rfl⟩,
   px_SpL.of (px_Sp.of (ps_aload_n dL_law_504 rfl)),
   px_SpL.of (px_Sp.of (ps_aload_n dL_law_505 rfl)),
   px_SpL.of (px_Sp.of (ps_iload_n dL_law_506 rfl)),
   px_SpL.of (px_Sp.of (ps_iconst dL_law_507 (by decide))),
   px_SpL.of (px_Sp.of (ps_iadd dL_law_508)),
   ps_sld dL_law_509,
   px_SpL.of (px_Sp.of (ps_aload_n dL_law_510 rfl)),
   px_SpL.of (px_Sp.of (ps_iload_n dL_law_511 rfl)),
   px_SpL.of (px_Sp.of (ps_iconst dL_law_512 (by decide))),
   px_SpL.of (px_Sp.of (ps_iadd dL_law_513)),
   ps_sld dL_law_514,
   ps_callV (px_mets l 9 46 (by decide)) (C := RX8) (T := TX8) (N := 10) (ci := 7) rfl rfl (fc_46 _ _) wm_RL_57 wi_yX8_fit wl_yX8_fit dL_law_515,
   px_SpL.of (px_Sp.of (ps_aload_n dL_law_518 rfl)),
   px_SpL.of (px_Sp.of (ps_aload_n dL_law_519 rfl)),
   px_SpL.of (px_Sp.of (ps_iload_n dL_law_520 rfl)),
   px_SpL.of (px_Sp.of (ps_iconst dL_law_521 (by decide))),
   px_SpL.of (px_Sp.of (ps_iadd dL_law_522)),
   ps_sld dL_law_523,
   px_SpL.of (px_Sp.of (ps_aload_n dL_law_524 rfl)),
   px_SpL.of (px_Sp.of (ps_iload_n dL_law_525 rfl)),
   px_SpL.of (px_Sp.of (ps_iconst dL_law_526 (by decide))),
   px_SpL.of (px_Sp.of (ps_iadd dL_law_527)),
   ps_sld dL_law_528,
   ps_callV (px_mets l 9 142 (by decide)) (C := RX9) (T := TX9) (N := 36) (ci := 8) rfl rfl (fc_142 _ _) wm_RL_60 wi_yX9_fit wl_yX9_fit dL_law_529,
   px_SpL.of (px_Sp.of (ps_icmp_eq dL_law_532 (by decide))),
   px_SpL.of (px_Sp.of (ps_iconst dL_law_535 (by decide))),
   ⟨dL_law_536, rfl⟩,
   px_SpL.of (px_Sp.of (ps_aload_n dL_law_537 rfl)),
   px_SpL.of (px_Sp.of (ps_aload_n dL_law_538 rfl)),
   px_SpL.of (px_Sp.of (ps_iload_n dL_law_539 rfl)),
   px_SpL.of (px_Sp.of (ps_iconst dL_law_540 (by decide))),
   px_SpL.of (px_Sp.of (ps_iadd dL_law_541)),
   ps_sld dL_law_542,
   ps_callV (px_mets l 9 47 (by decide)) (C := RX8) (T := TX8) (N := 10) (ci := 7) rfl rfl (fc_47 _ _) wm_RL_61 wi_yX8_count wl_yX8_count dL_law_543,
   px_SpL.of (px_Sp.of (ps_aload_n dL_law_546 rfl)),
   px_SpL.of (px_Sp.of (ps_aload_n dL_law_547 rfl)),
   px_SpL.of (px_Sp.of (ps_iload_n dL_law_548 rfl)),
   px_SpL.of (px_Sp.of (ps_iconst dL_law_549 (by decide))),
   px_SpL.of (px_Sp.of (ps_iadd dL_law_550)),
   ps_sld dL_law_551,
   ps_callV (px_mets l 9 184 (by decide)) (C := RX9) (T := TX9) (N := 36) (ci := 8) rfl rfl (fc_184 _ _) wm_RL_64 wi_yX9_count wl_yX9_count dL_law_552,
   px_SpL.of (px_Sp.of (ps_icmp_eq dL_law_555 (by decide))),
   px_SpL.of (px_Sp.of (ps_iconst dL_law_558 (by decide))),
   ⟨dL_law_559, rfl⟩,
   px_SpL.of (px_Sp.of (ps_aload_n dL_law_560 rfl)),
   px_SpL.of (px_Sp.of (ps_aload_n dL_law_561 rfl)),
   px_SpL.of (px_Sp.of (ps_iload_n dL_law_562 rfl)),
   px_SpL.of (px_Sp.of (ps_iconst dL_law_563 (by decide))),
   px_SpL.of (px_Sp.of (ps_iadd dL_law_564)),
   ps_sld dL_law_565,
   px_SpL.of (px_Sp.of (ps_aload_n dL_law_566 rfl)),
   px_SpL.of (px_Sp.of (ps_iload_n dL_law_567 rfl)),
   px_SpL.of (px_Sp.of (ps_iconst dL_law_568 (by decide))),
   px_SpL.of (px_Sp.of (ps_iadd dL_law_569)),
   ps_sld dL_law_570,
   px_SpL.of (px_Sp.of (ps_aload_n dL_law_571 rfl)),
   px_SpL.of (px_Sp.of (ps_iload_n dL_law_572 rfl)),
   px_SpL.of (px_Sp.of (ps_iconst dL_law_573 (by decide))),
   px_SpL.of (px_Sp.of (ps_iadd dL_law_574)),
   ps_sld dL_law_575,
   ps_callV (px_mets l 9 63 (by decide)) (C := RX8) (T := TX8) (N := 10) (ci := 7) rfl rfl (fc_63 _ _) wm_RL_65 wi_yX8_origin wl_yX8_origin dL_law_576,
   px_SpL.of (px_Sp.of (ps_aload_n dL_law_579 rfl)),
   px_SpL.of (px_Sp.of (ps_aload_n dL_law_580 rfl)),
   px_SpL.of (px_Sp.of (ps_iload_n dL_law_581 rfl)),
   px_SpL.of (px_Sp.of (ps_iconst dL_law_582 (by decide))),
   px_SpL.of (px_Sp.of (ps_iadd dL_law_583)),
   ps_sld dL_law_584,
   px_SpL.of (px_Sp.of (ps_aload_n dL_law_585 rfl)),
   px_SpL.of (px_Sp.of (ps_iload_n dL_law_586 rfl)),
   px_SpL.of (px_Sp.of (ps_iconst dL_law_587 (by decide))),
   px_SpL.of (px_Sp.of (ps_iadd dL_law_588)),
   ps_sld dL_law_589,
   px_SpL.of (px_Sp.of (ps_aload_n dL_law_590 rfl)),
   px_SpL.of (px_Sp.of (ps_iload_n dL_law_591 rfl)),
   px_SpL.of (px_Sp.of (ps_iconst dL_law_592 (by decide))),
   px_SpL.of (px_Sp.of (ps_iadd dL_law_593)),
   ps_sld dL_law_594,
   ps_callV (px_mets l 9 154 (by decide)) (C := RX9) (T := TX9) (N := 36) (ci := 8) rfl rfl (fc_154 _ _) wm_RL_68 wi_yX9_origin wl_yX9_origin dL_law_595,
   px_SpL.of (px_Sp.of (ps_icmp_eq dL_law_598 (by decide))),
   px_SpL.of (px_Sp.of (ps_iconst dL_law_601 (by decide))),
   ⟨dL_law_602, rfl⟩,
   px_SpL.of (px_Sp.of (ps_aload_n dL_law_603 rfl)),
   px_SpL.of (px_Sp.of (ps_aload_n dL_law_604 rfl)),
   px_SpL.of (px_Sp.of (ps_iload_n dL_law_605 rfl)),
   px_SpL.of (px_Sp.of (ps_iconst dL_law_606 (by decide))),
   px_SpL.of (px_Sp.of (ps_iadd dL_law_607)),
   ps_sld dL_law_608,
   px_SpL.of (px_Sp.of (ps_aload_n dL_law_609 rfl)),
   px_SpL.of (px_Sp.of (ps_iload_n dL_law_610 rfl)),
   px_SpL.of (px_Sp.of (ps_iconst dL_law_611 (by decide))),
   px_SpL.of (px_Sp.of (ps_iadd dL_law_612)),
   ps_sld dL_law_613,
   ps_callV (px_mets l 9 64 (by decide)) (C := RX8) (T := TX8) (N := 10) (ci := 7) rfl rfl (fc_64 _ _) wm_RL_69 wi_yX8_altered wl_yX8_altered dL_law_614,
   px_SpL.of (px_Sp.of (ps_aload_n dL_law_617 rfl)),
   px_SpL.of (px_Sp.of (ps_aload_n dL_law_618 rfl)),
   px_SpL.of (px_Sp.of (ps_iload_n dL_law_619 rfl)),
   px_SpL.of (px_Sp.of (ps_iconst dL_law_620 (by decide))),
   px_SpL.of (px_Sp.of (ps_iadd dL_law_621)),
   ps_sld dL_law_622,
   px_SpL.of (px_Sp.of (ps_aload_n dL_law_623 rfl)),
   px_SpL.of (px_Sp.of (ps_iload_n dL_law_624 rfl)),
   px_SpL.of (px_Sp.of (ps_iconst dL_law_625 (by decide))),
   px_SpL.of (px_Sp.of (ps_iadd dL_law_626)),
   ps_sld dL_law_627,
   ps_callV (px_mets l 9 158 (by decide)) (C := RX9) (T := TX9) (N := 36) (ci := 8) rfl rfl (fc_158 _ _) wm_RL_72 wi_yX9_altered wl_yX9_altered dL_law_628,
   px_SpL.of (px_Sp.of (ps_icmp_eq dL_law_631 (by decide))),
   px_SpL.of (px_Sp.of (ps_iconst dL_law_634 (by decide))),
   ⟨dL_law_635, rfl⟩,
   px_SpL.of (px_Sp.of (ps_aload_n dL_law_636 rfl)),
   px_SpL.of (px_Sp.of (ps_aload_n dL_law_637 rfl)),
   px_SpL.of (px_Sp.of (ps_iload_n dL_law_638 rfl)),
   px_SpL.of (px_Sp.of (ps_iconst dL_law_639 (by decide))),
   px_SpL.of (px_Sp.of (ps_iadd dL_law_640)),
   ps_sld dL_law_641,
   px_SpL.of (px_Sp.of (ps_aload_n dL_law_642 rfl)),
   px_SpL.of (px_Sp.of (ps_iload_n dL_law_643 rfl)),
   px_SpL.of (px_Sp.of (ps_iconst dL_law_644 (by decide))),
   px_SpL.of (px_Sp.of (ps_iadd dL_law_645)),
   ps_sld dL_law_646,
   ps_callV (px_mets l 9 65 (by decide)) (C := RX8) (T := TX8) (N := 10) (ci := 7) rfl rfl (fc_65 _ _) wm_RL_73 wi_yX8_echoes wl_yX8_echoes dL_law_647,
   px_SpL.of (px_Sp.of (ps_aload_n dL_law_650 rfl)),
   px_SpL.of (px_Sp.of (ps_aload_n dL_law_651 rfl)),
   px_SpL.of (px_Sp.of (ps_iload_n dL_law_652 rfl)),
   px_SpL.of (px_Sp.of (ps_iconst dL_law_653 (by decide))),
   px_SpL.of (px_Sp.of (ps_iadd dL_law_654)),
   ps_sld dL_law_655,
   px_SpL.of (px_Sp.of (ps_aload_n dL_law_656 rfl)),
   px_SpL.of (px_Sp.of (ps_iload_n dL_law_657 rfl)),
   px_SpL.of (px_Sp.of (ps_iconst dL_law_658 (by decide))),
   px_SpL.of (px_Sp.of (ps_iadd dL_law_659)),
   ps_sld dL_law_660,
   ps_callV (px_mets l 9 160 (by decide)) (C := RX9) (T := TX9) (N := 36) (ci := 8) rfl rfl (fc_160 _ _) wm_RL_76 wi_yX9_echoes wl_yX9_echoes dL_law_661,
   px_SpL.of (px_Sp.of (ps_icmp_eq dL_law_664 (by decide))),
   px_SpL.of (px_Sp.of (ps_iconst dL_law_667 (by decide))),
   ⟨dL_law_668, rfl⟩,
   px_SpL.of (px_Sp.of (ps_aload_n dL_law_669 rfl)),
   px_SpL.of (px_Sp.of (ps_aload_n dL_law_670 rfl)),
   px_SpL.of (px_Sp.of (ps_iload_n dL_law_671 rfl)),
   px_SpL.of (px_Sp.of (ps_iconst dL_law_672 (by decide))),
   px_SpL.of (px_Sp.of (ps_iadd dL_law_673)),
   ps_sld dL_law_674,
   ps_callV (px_mets l 9 66 (by decide)) (C := RX8) (T := TX8) (N := 10) (ci := 7) rfl rfl (fc_66 _ _) wm_RL_77 wi_yX8_group wl_yX8_group dL_law_675,
   px_SpL.of (px_Sp.of (ps_aload_n dL_law_678 rfl)),
   px_SpL.of (px_Sp.of (ps_aload_n dL_law_679 rfl)),
   px_SpL.of (px_Sp.of (ps_iload_n dL_law_680 rfl)),
   px_SpL.of (px_Sp.of (ps_iconst dL_law_681 (by decide))),
   px_SpL.of (px_Sp.of (ps_iadd dL_law_682)),
   ps_sld dL_law_683,
   ps_callV (px_mets l 9 161 (by decide)) (C := RX9) (T := TX9) (N := 36) (ci := 8) rfl rfl (fc_161 _ _) wm_RL_80 wi_yX9_group wl_yX9_group dL_law_684,
   px_SpL.of (px_Sp.of (ps_icmp_eq dL_law_687 (by decide))),
   px_SpL.of (px_Sp.of (ps_iconst dL_law_690 (by decide))),
   ⟨dL_law_691, rfl⟩,
   px_SpL.of (px_Sp.of (ps_aload_n dL_law_692 rfl)),
   px_SpL.of (px_Sp.of (ps_aload_n dL_law_693 rfl)),
   px_SpL.of (px_Sp.of (ps_iload_n dL_law_694 rfl)),
   px_SpL.of (px_Sp.of (ps_iconst dL_law_695 (by decide))),
   px_SpL.of (px_Sp.of (ps_iadd dL_law_696)),
   ps_sld dL_law_697,
   px_SpL.of (px_Sp.of (ps_aload_n dL_law_698 rfl)),
   px_SpL.of (px_Sp.of (ps_iload_n dL_law_699 rfl)),
   px_SpL.of (px_Sp.of (ps_iconst dL_law_700 (by decide))),
   px_SpL.of (px_Sp.of (ps_iadd dL_law_701)),
   ps_sld dL_law_702,
   ps_callV (px_mets l 9 67 (by decide)) (C := RX8) (T := TX8) (N := 10) (ci := 7) rfl rfl (fc_67 _ _) wm_RL_81 wi_yX8_lost wl_yX8_lost dL_law_703,
   px_SpL.of (px_Sp.of (ps_aload_n dL_law_706 rfl)),
   px_SpL.of (px_Sp.of (ps_aload_n dL_law_707 rfl)),
   px_SpL.of (px_Sp.of (ps_iload_n dL_law_708 rfl)),
   px_SpL.of (px_Sp.of (ps_iconst dL_law_709 (by decide))),
   px_SpL.of (px_Sp.of (ps_iadd dL_law_710)),
   ps_sld dL_law_711,
   px_SpL.of (px_Sp.of (ps_aload_n dL_law_712 rfl)),
   px_SpL.of (px_Sp.of (ps_iload_n dL_law_713 rfl)),
   px_SpL.of (px_Sp.of (ps_iconst dL_law_714 (by decide))),
   px_SpL.of (px_Sp.of (ps_iadd dL_law_715)),
   ps_sld dL_law_716,
   ps_callV (px_mets l 9 166 (by decide)) (C := RX9) (T := TX9) (N := 36) (ci := 8) rfl rfl (fc_166 _ _) wm_RL_84 wi_yX9_lost wl_yX9_lost dL_law_717,
   px_SpL.of (px_Sp.of (ps_icmp_eq dL_law_720 (by decide))),
   px_SpL.of (px_Sp.of (ps_iconst dL_law_723 (by decide))),
   ⟨dL_law_724, rfl⟩,
   px_SpL.of (px_Sp.of (ps_aload_n dL_law_725 rfl)),
   px_SpL.of (px_Sp.of (ps_aload_n dL_law_726 rfl)),
   px_SpL.of (px_Sp.of (ps_iload_n dL_law_727 rfl)),
   px_SpL.of (px_Sp.of (ps_iconst dL_law_728 (by decide))),
   px_SpL.of (px_Sp.of (ps_iadd dL_law_729)),
   ps_sld dL_law_730,
   px_SpL.of (px_Sp.of (ps_aload_n dL_law_731 rfl)),
   px_SpL.of (px_Sp.of (ps_iload_n dL_law_732 rfl)),
   px_SpL.of (px_Sp.of (ps_iconst dL_law_733 (by decide))),
   px_SpL.of (px_Sp.of (ps_iadd dL_law_734)),
   ps_sld dL_law_735,
   px_SpL.of (px_Sp.of (ps_aload_n dL_law_736 rfl)),
   px_SpL.of (px_Sp.of (ps_iload_n dL_law_737 rfl)),
   px_SpL.of (px_Sp.of (ps_iconst dL_law_738 (by decide))),
   px_SpL.of (px_Sp.of (ps_iadd dL_law_739)),
   ps_sld dL_law_740,
   ps_callV (px_mets l 9 84 (by decide)) (C := RX8) (T := TX8) (N := 10) (ci := 7) rfl rfl (fc_84 _ _) wm_RL_85 wi_yX8_lostWord wl_yX8_lostWord dL_law_741,
   px_SpL.of (px_Sp.of (ps_aload_n dL_law_744 rfl)),
   px_SpL.of (px_Sp.of (ps_aload_n dL_law_745 rfl)),
   px_SpL.of (px_Sp.of (ps_iload_n dL_law_746 rfl)),
   px_SpL.of (px_Sp.of (ps_iconst dL_law_747 (by decide))),
   px_SpL.of (px_Sp.of (ps_iadd dL_law_748)),
   ps_sld dL_law_749,
   px_SpL.of (px_Sp.of (ps_aload_n dL_law_750 rfl)),
   px_SpL.of (px_Sp.of (ps_iload_n dL_law_751 rfl)),
   px_SpL.of (px_Sp.of (ps_iconst dL_law_752 (by decide))),
   px_SpL.of (px_Sp.of (ps_iadd dL_law_753)),
   ps_sld dL_law_754,
   px_SpL.of (px_Sp.of (ps_aload_n dL_law_755 rfl)),
   px_SpL.of (px_Sp.of (ps_iload_n dL_law_756 rfl)),
   px_SpL.of (px_Sp.of (ps_iconst dL_law_757 (by decide))),
   px_SpL.of (px_Sp.of (ps_iadd dL_law_758)),
   ps_sld dL_law_759,
   ps_callV (px_mets l 9 174 (by decide)) (C := RX9) (T := TX9) (N := 36) (ci := 8) rfl rfl (fc_174 _ _) wm_RL_88 wi_yX9_lostWord wl_yX9_lostWord dL_law_760,
   px_SpL.of (px_Sp.of (ps_icmp_eq dL_law_763 (by decide))),
   px_SpL.of (px_Sp.of (ps_iconst dL_law_766 (by decide))),
   ⟨dL_law_767, rfl⟩,
   px_SpL.of (px_Sp.of (ps_aload_n dL_law_768 rfl)),
   px_SpL.of (px_Sp.of (ps_aload_n dL_law_769 rfl)),
   px_SpL.of (px_Sp.of (ps_iload_n dL_law_770 rfl)),
   px_SpL.of (px_Sp.of (ps_iconst dL_law_771 (by decide))),
   px_SpL.of (px_Sp.of (ps_iadd dL_law_772)),
   ps_sld dL_law_773,
   ps_callV (px_mets l 9 86 (by decide)) (C := RX8) (T := TX8) (N := 10) (ci := 7) rfl rfl (fc_86 _ _) wm_RL_89 wi_yX8_order wl_yX8_order dL_law_774,
   px_SpL.of (px_Sp.of (ps_aload_n dL_law_777 rfl)),
   px_SpL.of (px_Sp.of (ps_aload_n dL_law_778 rfl)),
   px_SpL.of (px_Sp.of (ps_iload_n dL_law_779 rfl)),
   px_SpL.of (px_Sp.of (ps_iconst dL_law_780 (by decide))),
   px_SpL.of (px_Sp.of (ps_iadd dL_law_781)),
   ps_sld dL_law_782,
   ps_callV (px_mets l 9 175 (by decide)) (C := RX9) (T := TX9) (N := 36) (ci := 8) rfl rfl (fc_175 _ _) wm_RL_92 wi_yX9_order wl_yX9_order dL_law_783,
   px_SpL.of (px_Sp.of (ps_icmp_eq dL_law_786 (by decide))),
   px_SpL.of (px_Sp.of (ps_iconst dL_law_789 (by decide))),
   ⟨dL_law_790, rfl⟩,
   px_SpL.of (px_Sp.of (ps_aload_n dL_law_791 rfl)),
   px_SpL.of (px_Sp.of (ps_aload_n dL_law_792 rfl)),
   px_SpL.of (px_Sp.of (ps_iload_n dL_law_793 rfl)),
   px_SpL.of (px_Sp.of (ps_iconst dL_law_794 (by decide))),
   px_SpL.of (px_Sp.of (ps_iadd dL_law_795)),
   ps_sld dL_law_796,
   ps_callV (px_mets l 9 89 (by decide)) (C := RX8) (T := TX8) (N := 10) (ci := 7) rfl rfl (fc_89 _ _) wm_RL_93 wi_yX8_quarrel wl_yX8_quarrel dL_law_797,
   px_SpL.of (px_Sp.of (ps_aload_n dL_law_800 rfl)),
   px_SpL.of (px_Sp.of (ps_aload_n dL_law_801 rfl)),
   px_SpL.of (px_Sp.of (ps_iload_n dL_law_802 rfl)),
   px_SpL.of (px_Sp.of (ps_iconst dL_law_803 (by decide))),
   px_SpL.of (px_Sp.of (ps_iadd dL_law_804)),
   ps_sld dL_law_805,
   ps_callV (px_mets l 9 176 (by decide)) (C := RX9) (T := TX9) (N := 36) (ci := 8) rfl rfl (fc_176 _ _) wm_RL_96 wi_yX9_quarrel wl_yX9_quarrel dL_law_806,
   px_SpL.of (px_Sp.of (ps_icmp_eq dL_law_809 (by decide))),
   px_SpL.of (px_Sp.of (ps_iconst dL_law_812 (by decide))),
   ⟨dL_law_813, rfl⟩,
   px_SpL.of (px_Sp.of (ps_aload_n dL_law_814 rfl)),
   px_SpL.of (px_Sp.of (ps_aload_n dL_law_815 rfl)),
   px_SpL.of (px_Sp.of (ps_iload_n dL_law_816 rfl)),
   px_SpL.of (px_Sp.of (ps_iconst dL_law_817 (by decide))),
   px_SpL.of (px_Sp.of (ps_iadd dL_law_818)),
   ps_sld dL_law_819,
   px_SpL.of (px_Sp.of (ps_aload_n dL_law_820 rfl)),
   px_SpL.of (px_Sp.of (ps_iload_n dL_law_821 rfl)),
   px_SpL.of (px_Sp.of (ps_iconst dL_law_822 (by decide))),
   px_SpL.of (px_Sp.of (ps_iadd dL_law_823)),
   ps_sld dL_law_824,
   ps_callV (px_mets l 9 91 (by decide)) (C := RX8) (T := TX8) (N := 10) (ci := 7) rfl rfl (fc_91 _ _) wm_RL_97 wi_yX8_span wl_yX8_span dL_law_825,
   px_SpL.of (px_Sp.of (ps_aload_n dL_law_828 rfl)),
   px_SpL.of (px_Sp.of (ps_aload_n dL_law_829 rfl)),
   px_SpL.of (px_Sp.of (ps_iload_n dL_law_830 rfl)),
   px_SpL.of (px_Sp.of (ps_iconst dL_law_831 (by decide))),
   px_SpL.of (px_Sp.of (ps_iadd dL_law_832)),
   ps_sld dL_law_833,
   px_SpL.of (px_Sp.of (ps_aload_n dL_law_834 rfl)),
   px_SpL.of (px_Sp.of (ps_iload_n dL_law_835 rfl)),
   px_SpL.of (px_Sp.of (ps_iconst dL_law_836 (by decide))),
   px_SpL.of (px_Sp.of (ps_iadd dL_law_837)),
   ps_sld dL_law_838,
   ps_callV (px_mets l 9 178 (by decide)) (C := RX9) (T := TX9) (N := 36) (ci := 8) rfl rfl (fc_178 _ _) wm_RL_100 wi_yX9_span wl_yX9_span dL_law_839,
   px_SpL.of (px_Sp.of (ps_icmp_eq dL_law_842 (by decide))),
   px_SpL.of (px_Sp.of (ps_iconst dL_law_845 (by decide))),
   ⟨dL_law_846, rfl⟩,
   px_SpL.of (px_Sp.of (ps_aload_n dL_law_847 rfl)),
   px_SpL.of (px_Sp.of (ps_aload_n dL_law_848 rfl)),
   px_SpL.of (px_Sp.of (ps_iload_n dL_law_849 rfl)),
   px_SpL.of (px_Sp.of (ps_iconst dL_law_850 (by decide))),
   px_SpL.of (px_Sp.of (ps_iadd dL_law_851)),
   ps_sld dL_law_852,
   ps_callV (px_mets l 9 94 (by decide)) (C := RX8) (T := TX8) (N := 10) (ci := 7) rfl rfl (fc_94 _ _) wm_RL_101 wi_yX8_sign wl_yX8_sign dL_law_853,
   px_SpL.of (px_Sp.of (ps_aload_n dL_law_856 rfl)),
   px_SpL.of (px_Sp.of (ps_aload_n dL_law_857 rfl)),
   px_SpL.of (px_Sp.of (ps_iload_n dL_law_858 rfl)),
   px_SpL.of (px_Sp.of (ps_iconst dL_law_859 (by decide))),
   px_SpL.of (px_Sp.of (ps_iadd dL_law_860)),
   ps_sld dL_law_861,
   ps_callV (px_mets l 9 179 (by decide)) (C := RX9) (T := TX9) (N := 36) (ci := 8) rfl rfl (fc_179 _ _) wm_RL_104 wi_yX9_sign wl_yX9_sign dL_law_862,
   px_SpL.of (px_Sp.of (ps_icmp_eq dL_law_865 (by decide))),
   px_SpL.of (px_Sp.of (ps_iconst dL_law_868 (by decide))),
   ⟨dL_law_869, rfl⟩,
   px_SpL.of (px_Sp.of (ps_aload_n dL_law_870 rfl)),
   ps_callV (px_mets l 9 96 (by decide)) (C := RX8) (T := TX8) (N := 10) (ci := 7) rfl rfl (fc_96 _ _) wm_RL_105 wi_yX8_clear wl_yX8_clear dL_law_871,
   px_SpL.of (px_Sp.of (ps_aload_n dL_law_874 rfl)),
   ps_callV (px_mets l 9 180 (by decide)) (C := RX9) (T := TX9) (N := 36) (ci := 8) rfl rfl (fc_180 _ _) wm_RL_109 wi_yX9_clear wl_yX9_clear dL_law_875,
   px_SpL.of (px_Sp.of (ps_icmp_eq dL_law_878 (by decide))),
   px_SpL.of (px_Sp.of (ps_iconst dL_law_881 (by decide))),
   ⟨dL_law_882, rfl⟩,
   px_SpL.of (px_Sp.of (ps_aload_n dL_law_883 rfl)),
   px_SpL.of (px_Sp.of (ps_aload_n dL_law_884 rfl)),
   px_SpL.of (px_Sp.of (ps_iload_n dL_law_885 rfl)),
   px_SpL.of (px_Sp.of (ps_iconst dL_law_886 (by decide))),
   px_SpL.of (px_Sp.of (ps_iadd dL_law_887)),
   ps_sld dL_law_888,
   px_SpL.of (px_Sp.of (ps_aload_n dL_law_889 rfl)),
   px_SpL.of (px_Sp.of (ps_iload_n dL_law_890 rfl)),
   px_SpL.of (px_Sp.of (ps_iconst dL_law_891 (by decide))),
   px_SpL.of (px_Sp.of (ps_iadd dL_law_892)),
   ps_sld dL_law_893,
   px_SpL.of (px_Sp.of (ps_aload_n dL_law_894 rfl)),
   px_SpL.of (px_Sp.of (ps_iload_n dL_law_895 rfl)),
   px_SpL.of (px_Sp.of (ps_iconst dL_law_896 (by decide))),
   px_SpL.of (px_Sp.of (ps_iadd dL_law_897)),
   ps_sld dL_law_898,
   ps_callV (px_mets l 9 97 (by decide)) (C := RX8) (T := TX8) (N := 10) (ci := 7) rfl rfl (fc_97 _ _) wm_RL_110 wi_yX8_seek wl_yX8_seek dL_law_899,
   px_SpL.of (px_Sp.of (ps_aload_n dL_law_902 rfl)),
   px_SpL.of (px_Sp.of (ps_aload_n dL_law_903 rfl)),
   px_SpL.of (px_Sp.of (ps_iload_n dL_law_904 rfl)),
   px_SpL.of (px_Sp.of (ps_iconst dL_law_905 (by decide))),
   px_SpL.of (px_Sp.of (ps_iadd dL_law_906)),
   ps_sld dL_law_907,
   px_SpL.of (px_Sp.of (ps_aload_n dL_law_908 rfl)),
   px_SpL.of (px_Sp.of (ps_iload_n dL_law_909 rfl)),
   px_SpL.of (px_Sp.of (ps_iconst dL_law_910 (by decide))),
   px_SpL.of (px_Sp.of (ps_iadd dL_law_911)),
   ps_sld dL_law_912,
   px_SpL.of (px_Sp.of (ps_aload_n dL_law_913 rfl)),
   px_SpL.of (px_Sp.of (ps_iload_n dL_law_914 rfl)),
   px_SpL.of (px_Sp.of (ps_iconst dL_law_915 (by decide))),
   px_SpL.of (px_Sp.of (ps_iadd dL_law_916)),
   ps_sld dL_law_917,
   ps_callV (px_mets l 9 181 (by decide)) (C := RX9) (T := TX9) (N := 36) (ci := 8) rfl rfl (fc_181 _ _) wm_RL_113 wi_yX9_seek wl_yX9_seek dL_law_918,
   px_SpL.of (px_Sp.of (ps_icmp_eq dL_law_921 (by decide))),
   px_SpL.of (px_Sp.of (ps_iconst dL_law_924 (by decide))),
   ⟨dL_law_925, rfl⟩,
   px_SpL.of (px_Sp.of (ps_aload_n dL_law_926 rfl)),
   px_SpL.of (px_Sp.of (ps_aload_n dL_law_927 rfl)),
   px_SpL.of (px_Sp.of (ps_iload_n dL_law_928 rfl)),
   px_SpL.of (px_Sp.of (ps_iconst dL_law_929 (by decide))),
   px_SpL.of (px_Sp.of (ps_iadd dL_law_930)),
   ps_sld dL_law_931,
   ps_callV (px_mets l 9 101 (by decide)) (C := RX8) (T := TX8) (N := 10) (ci := 7) rfl rfl (fc_101 _ _) wm_RL_114 wi_yX8_still wl_yX8_still dL_law_932,
   px_SpL.of (px_Sp.of (ps_aload_n dL_law_935 rfl)),
   px_SpL.of (px_Sp.of (ps_aload_n dL_law_936 rfl)),
   px_SpL.of (px_Sp.of (ps_iload_n dL_law_937 rfl)),
   px_SpL.of (px_Sp.of (ps_iconst dL_law_938 (by decide))),
   px_SpL.of (px_Sp.of (ps_iadd dL_law_939)),
   ps_sld dL_law_940,
   ps_callV (px_mets l 9 183 (by decide)) (C := RX9) (T := TX9) (N := 36) (ci := 8) rfl rfl (fc_183 _ _) wm_RL_117 wi_yX9_still wl_yX9_still dL_law_941,
   px_SpL.of (px_Sp.of (ps_icmp_eq dL_law_944 (by decide))),
   px_SpL.of (px_Sp.of (ps_iconst dL_law_947 (by decide))),
   ⟨dL_law_948, rfl⟩,
   px_SpL.of (px_Sp.of (ps_aload_n dL_law_949 rfl)),
   px_SpL.of (px_Sp.of (ps_aload_n dL_law_950 rfl)),
   px_SpL.of (px_Sp.of (ps_iload_n dL_law_951 rfl)),
   px_SpL.of (px_Sp.of (ps_iconst dL_law_952 (by decide))),
   px_SpL.of (px_Sp.of (ps_iadd dL_law_953)),
   ps_sld dL_law_954,
   px_SpL.of (px_Sp.of (ps_aload_n dL_law_955 rfl)),
   px_SpL.of (px_Sp.of (ps_iload_n dL_law_956 rfl)),
   px_SpL.of (px_Sp.of (ps_iconst dL_law_957 (by decide))),
   px_SpL.of (px_Sp.of (ps_iadd dL_law_958)),
   ps_sld dL_law_959,
   px_SpL.of (px_Sp.of (ps_i2l dL_law_960)),
   px_SpL.of (px_Sp.of (ps_bipush dL_law_961 (by decide))),
   px_SpL.of (px_Sp.of (ps_lshl dL_law_963)),
   px_SpL.of (px_Sp.of (ps_aload_n dL_law_964 rfl)),
   px_SpL.of (px_Sp.of (ps_iload_n dL_law_965 rfl)),
   px_SpL.of (px_Sp.of (ps_iconst dL_law_966 (by decide))),
   px_SpL.of (px_Sp.of (ps_iadd dL_law_967)),
   ps_sld dL_law_968,
   px_SpL.of (px_Sp.of (ps_i2l dL_law_969)),
   px_SpL.of (px_Sp.of (ps_ldc2 dL_law_970 wk_RL_118)),
   px_SpL.of (px_Sp.of (ps_land dL_law_973)),
   px_SpL.of (px_Sp.of (ps_lor dL_law_974)),
   ps_callV (px_mets l 9 103 (by decide)) (C := RX8) (T := TX8) (N := 10) (ci := 7) rfl rfl (fc_103 _ _) wm_RL_120 wi_yX8_feed wl_yX8_feed dL_law_975,
   px_SpL.of (px_Sp.of (ps_aload_n dL_law_978 rfl)),
   px_SpL.of (px_Sp.of (ps_aload_n dL_law_979 rfl)),
   px_SpL.of (px_Sp.of (ps_iload_n dL_law_980 rfl)),
   px_SpL.of (px_Sp.of (ps_iconst dL_law_981 (by decide))),
   px_SpL.of (px_Sp.of (ps_iadd dL_law_982)),
   ps_sld dL_law_983,
   px_SpL.of (px_Sp.of (ps_aload_n dL_law_984 rfl)),
   px_SpL.of (px_Sp.of (ps_iload_n dL_law_985 rfl)),
   px_SpL.of (px_Sp.of (ps_iconst dL_law_986 (by decide))),
   px_SpL.of (px_Sp.of (ps_iadd dL_law_987)),
   ps_sld dL_law_988,
   px_SpL.of (px_Sp.of (ps_i2l dL_law_989)),
   px_SpL.of (px_Sp.of (ps_bipush dL_law_990 (by decide))),
   px_SpL.of (px_Sp.of (ps_lshl dL_law_992)),
   px_SpL.of (px_Sp.of (ps_aload_n dL_law_993 rfl)),
   px_SpL.of (px_Sp.of (ps_iload_n dL_law_994 rfl)),
   px_SpL.of (px_Sp.of (ps_iconst dL_law_995 (by decide))),
   px_SpL.of (px_Sp.of (ps_iadd dL_law_996)),
   ps_sld dL_law_997,
   px_SpL.of (px_Sp.of (ps_i2l dL_law_998)),
   px_SpL.of (px_Sp.of (ps_ldc2 dL_law_999 wk_RL_118)),
   px_SpL.of (px_Sp.of (ps_land dL_law_1002)),
   px_SpL.of (px_Sp.of (ps_lor dL_law_1003)),
   ps_callV (px_mets l 9 185 (by decide)) (C := RX9) (T := TX9) (N := 36) (ci := 8) rfl rfl (fc_185 _ _) wm_RL_124 wi_yX9_feed wl_yX9_feed dL_law_1004,
   px_SpL.of (px_Sp.of (ps_icmp_eq dL_law_1007 (by decide))),
   px_SpL.of (px_Sp.of (ps_iconst dL_law_1010 (by decide))),
   ⟨dL_law_1011, rfl⟩,
   px_SpL.of (px_Sp.of (ps_aload_n dL_law_1012 rfl)),
   ps_callV (px_mets l 9 105 (by decide)) (C := RX8) (T := TX8) (N := 10) (ci := 7) rfl rfl (fc_105 _ _) wm_RL_125 wi_yX8_read wl_yX8_read dL_law_1013,
   px_SpL.of (px_Sp.of (ps_aload_n dL_law_1016 rfl)),
   ps_callV (px_mets l 9 186 (by decide)) (C := RX9) (T := TX9) (N := 36) (ci := 8) rfl rfl (fc_186 _ _) wm_RL_128 wi_yX9_read wl_yX9_read dL_law_1017,
   px_SpL.of (px_Sp.of (ps_icmp_eq dL_law_1020 (by decide))),
   px_SpL.of (px_Sp.of (ps_iconst dL_law_1023 (by decide))),
   ⟨dL_law_1024, rfl⟩,
   px_SpL.of (px_Sp.of (ps_aload_n dL_law_1025 rfl)),
   ps_callV (px_mets l 9 126 (by decide)) (C := RX8) (T := TX8) (N := 10) (ci := 7) rfl rfl (fc_126 _ _) wm_RL_129 wi_yX8_fault wl_yX8_fault dL_law_1026,
   px_SpL.of (px_Sp.of (ps_aload_n dL_law_1029 rfl)),
   ps_callV (px_mets l 9 194 (by decide)) (C := RX9) (T := TX9) (N := 36) (ci := 8) rfl rfl (fc_194 _ _) wm_RL_132 wi_yX9_fault wl_yX9_fault dL_law_1030,
   px_SpL.of (px_Sp.of (ps_icmp_eq dL_law_1033 (by decide))),
   px_SpL.of (px_Sp.of (ps_iconst dL_law_1036 (by decide))),
   ⟨dL_law_1037, rfl⟩,
   px_SpL.of (px_Sp.of (ps_aload_n dL_law_1038 rfl)),
   px_SpL.of (px_Sp.of (ps_aload_n dL_law_1039 rfl)),
   px_SpL.of (px_Sp.of (ps_iload_n dL_law_1040 rfl)),
   px_SpL.of (px_Sp.of (ps_iconst dL_law_1041 (by decide))),
   px_SpL.of (px_Sp.of (ps_iadd dL_law_1042)),
   ps_sld dL_law_1043,
   ps_callV (px_mets l 9 127 (by decide)) (C := RX8) (T := TX8) (N := 10) (ci := 7) rfl rfl (fc_127 _ _) wm_RL_133 wi_yX8_rule wl_yX8_rule dL_law_1044,
   px_SpL.of (px_Sp.of (ps_aload_n dL_law_1047 rfl)),
   px_SpL.of (px_Sp.of (ps_aload_n dL_law_1048 rfl)),
   px_SpL.of (px_Sp.of (ps_iload_n dL_law_1049 rfl)),
   px_SpL.of (px_Sp.of (ps_iconst dL_law_1050 (by decide))),
   px_SpL.of (px_Sp.of (ps_iadd dL_law_1051)),
   ps_sld dL_law_1052,
   ps_callV (px_mets l 9 195 (by decide)) (C := RX9) (T := TX9) (N := 36) (ci := 8) rfl rfl (fc_195 _ _) wm_RL_136 wi_yX9_rule wl_yX9_rule dL_law_1053,
   px_SpL.of (px_Sp.of (ps_icmp_eq dL_law_1056 (by decide))),
   px_SpL.of (px_Sp.of (ps_iconst dL_law_1059 (by decide))),
   ⟨dL_law_1060, rfl⟩,
   px_SpL.of (px_Sp.of (ps_iinc dL_law_1061 (by decide) (by decide))),
   px_SpL.of (px_Sp.of (ps_goto dL_law_1064 (by decide))),
   px_SpL.of (px_Sp.of (ps_iconst dL_law_1067 (by decide))),
   ⟨dL_law_1068, rfl⟩, trivial⟩
