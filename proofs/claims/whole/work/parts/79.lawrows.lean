/-! ===== 19: the law's instructions (printed by program) ===== -/
theorem dL_0 : decode code 0 = .ok (.new 7, 3) := by decide +kernel
theorem dL_3 : decode code 3 = .ok (.dup, 1) := by decide +kernel
theorem dL_4 : decode code 4 = .ok (.invokespecial 9, 3) := by decide +kernel
theorem dL_7 : decode code 7 = .ok (.astore_n 1, 1) := by decide +kernel
theorem dL_8 : decode code 8 = .ok (.new 10, 3) := by decide +kernel
theorem dL_11 : decode code 11 = .ok (.dup, 1) := by decide +kernel
theorem dL_12 : decode code 12 = .ok (.invokespecial 12, 3) := by decide +kernel
theorem dL_15 : decode code 15 = .ok (.astore_n 2, 1) := by decide +kernel
theorem dL_16 : decode code 16 = .ok (.iconst 0, 1) := by decide +kernel
theorem dL_17 : decode code 17 = .ok (.istore_n 3, 1) := by decide +kernel
theorem dL_18 : decode code 18 = .ok (.iload_n 3, 1) := by decide +kernel
theorem dL_19 : decode code 19 = .ok (.aload_n 0, 1) := by decide +kernel
theorem dL_20 : decode code 20 = .ok (.arraylength, 1) := by decide +kernel
theorem dL_21 : decode code 21 = .ok (.iconst 4, 1) := by decide +kernel
theorem dL_22 : decode code 22 = .ok (.isub, 1) := by decide +kernel
theorem dL_23 : decode code 23 = .ok (.if_icmp .gt 776, 3) := by decide +kernel
theorem dL_26 : decode code 26 = .ok (.aload_n 0, 1) := by decide +kernel
theorem dL_27 : decode code 27 = .ok (.iload_n 3, 1) := by decide +kernel
theorem dL_28 : decode code 28 = .ok (.iaload, 1) := by decide +kernel
theorem dL_29 : decode code 29 = .ok (.bipush 31, 2) := by decide +kernel
theorem dL_31 : decode code 31 = .ok (.iand, 1) := by decide +kernel
theorem dL_32 : decode code 32 = .ok (.tableswitch 761 0 24 #[116, 139, 182, 225, 248, 281, 304, 337, 350, 373, 406, 439, 462, 485, 508, 531, 544, 567, 590, 613, 636, 649, 682, 715, 738], 116) := by decide +kernel
theorem dL_148 : decode code 148 = .ok (.aload_n 1, 1) := by decide +kernel
theorem dL_149 : decode code 149 = .ok (.aload_n 0, 1) := by decide +kernel
theorem dL_150 : decode code 150 = .ok (.iload_n 3, 1) := by decide +kernel
theorem dL_151 : decode code 151 = .ok (.iconst 1, 1) := by decide +kernel
theorem dL_152 : decode code 152 = .ok (.iadd, 1) := by decide +kernel
theorem dL_153 : decode code 153 = .ok (.iaload, 1) := by decide +kernel
theorem dL_154 : decode code 154 = .ok (.invokevirtual 13, 3) := by decide +kernel
theorem dL_157 : decode code 157 = .ok (.aload_n 2, 1) := by decide +kernel
theorem dL_158 : decode code 158 = .ok (.aload_n 0, 1) := by decide +kernel
theorem dL_159 : decode code 159 = .ok (.iload_n 3, 1) := by decide +kernel
theorem dL_160 : decode code 160 = .ok (.iconst 1, 1) := by decide +kernel
theorem dL_161 : decode code 161 = .ok (.iadd, 1) := by decide +kernel
theorem dL_162 : decode code 162 = .ok (.iaload, 1) := by decide +kernel
theorem dL_163 : decode code 163 = .ok (.invokevirtual 17, 3) := by decide +kernel
theorem dL_166 : decode code 166 = .ok (.if_icmp .eq 627, 3) := by decide +kernel
theorem dL_169 : decode code 169 = .ok (.iconst 0, 1) := by decide +kernel
theorem dL_170 : decode code 170 = .ok (.ireturn, 1) := by decide +kernel
theorem dL_171 : decode code 171 = .ok (.aload_n 1, 1) := by decide +kernel
theorem dL_172 : decode code 172 = .ok (.aload_n 0, 1) := by decide +kernel
theorem dL_173 : decode code 173 = .ok (.iload_n 3, 1) := by decide +kernel
theorem dL_174 : decode code 174 = .ok (.iconst 1, 1) := by decide +kernel
theorem dL_175 : decode code 175 = .ok (.iadd, 1) := by decide +kernel
theorem dL_176 : decode code 176 = .ok (.iaload, 1) := by decide +kernel
theorem dL_177 : decode code 177 = .ok (.aload_n 0, 1) := by decide +kernel
theorem dL_178 : decode code 178 = .ok (.iload_n 3, 1) := by decide +kernel
theorem dL_179 : decode code 179 = .ok (.iconst 2, 1) := by decide +kernel
theorem dL_180 : decode code 180 = .ok (.iadd, 1) := by decide +kernel
theorem dL_181 : decode code 181 = .ok (.iaload, 1) := by decide +kernel
theorem dL_182 : decode code 182 = .ok (.aload_n 0, 1) := by decide +kernel
theorem dL_183 : decode code 183 = .ok (.iload_n 3, 1) := by decide +kernel
theorem dL_184 : decode code 184 = .ok (.iconst 3, 1) := by decide +kernel
theorem dL_185 : decode code 185 = .ok (.iadd, 1) := by decide +kernel
theorem dL_186 : decode code 186 = .ok (.iaload, 1) := by decide +kernel
theorem dL_187 : decode code 187 = .ok (.invokevirtual 18, 3) := by decide +kernel
theorem dL_190 : decode code 190 = .ok (.aload_n 2, 1) := by decide +kernel
theorem dL_191 : decode code 191 = .ok (.aload_n 0, 1) := by decide +kernel
theorem dL_192 : decode code 192 = .ok (.iload_n 3, 1) := by decide +kernel
theorem dL_193 : decode code 193 = .ok (.iconst 1, 1) := by decide +kernel
theorem dL_194 : decode code 194 = .ok (.iadd, 1) := by decide +kernel
theorem dL_195 : decode code 195 = .ok (.iaload, 1) := by decide +kernel
theorem dL_196 : decode code 196 = .ok (.aload_n 0, 1) := by decide +kernel
theorem dL_197 : decode code 197 = .ok (.iload_n 3, 1) := by decide +kernel
theorem dL_198 : decode code 198 = .ok (.iconst 2, 1) := by decide +kernel
theorem dL_199 : decode code 199 = .ok (.iadd, 1) := by decide +kernel
theorem dL_200 : decode code 200 = .ok (.iaload, 1) := by decide +kernel
theorem dL_201 : decode code 201 = .ok (.aload_n 0, 1) := by decide +kernel
theorem dL_202 : decode code 202 = .ok (.iload_n 3, 1) := by decide +kernel
theorem dL_203 : decode code 203 = .ok (.iconst 3, 1) := by decide +kernel
theorem dL_204 : decode code 204 = .ok (.iadd, 1) := by decide +kernel
theorem dL_205 : decode code 205 = .ok (.iaload, 1) := by decide +kernel
theorem dL_206 : decode code 206 = .ok (.invokevirtual 22, 3) := by decide +kernel
theorem dL_209 : decode code 209 = .ok (.if_icmp .eq 584, 3) := by decide +kernel
theorem dL_212 : decode code 212 = .ok (.iconst 0, 1) := by decide +kernel
theorem dL_213 : decode code 213 = .ok (.ireturn, 1) := by decide +kernel
theorem dL_214 : decode code 214 = .ok (.aload_n 1, 1) := by decide +kernel
theorem dL_215 : decode code 215 = .ok (.aload_n 0, 1) := by decide +kernel
theorem dL_216 : decode code 216 = .ok (.iload_n 3, 1) := by decide +kernel
theorem dL_217 : decode code 217 = .ok (.iconst 1, 1) := by decide +kernel
theorem dL_218 : decode code 218 = .ok (.iadd, 1) := by decide +kernel
theorem dL_219 : decode code 219 = .ok (.iaload, 1) := by decide +kernel
theorem dL_220 : decode code 220 = .ok (.aload_n 0, 1) := by decide +kernel
theorem dL_221 : decode code 221 = .ok (.iload_n 3, 1) := by decide +kernel
theorem dL_222 : decode code 222 = .ok (.iconst 2, 1) := by decide +kernel
theorem dL_223 : decode code 223 = .ok (.iadd, 1) := by decide +kernel
theorem dL_224 : decode code 224 = .ok (.iaload, 1) := by decide +kernel
theorem dL_225 : decode code 225 = .ok (.aload_n 0, 1) := by decide +kernel
theorem dL_226 : decode code 226 = .ok (.iload_n 3, 1) := by decide +kernel
theorem dL_227 : decode code 227 = .ok (.iconst 3, 1) := by decide +kernel
theorem dL_228 : decode code 228 = .ok (.iadd, 1) := by decide +kernel
theorem dL_229 : decode code 229 = .ok (.iaload, 1) := by decide +kernel
theorem dL_230 : decode code 230 = .ok (.invokevirtual 23, 3) := by decide +kernel
theorem dL_233 : decode code 233 = .ok (.aload_n 2, 1) := by decide +kernel
theorem dL_234 : decode code 234 = .ok (.aload_n 0, 1) := by decide +kernel
theorem dL_235 : decode code 235 = .ok (.iload_n 3, 1) := by decide +kernel
theorem dL_236 : decode code 236 = .ok (.iconst 1, 1) := by decide +kernel
theorem dL_237 : decode code 237 = .ok (.iadd, 1) := by decide +kernel
theorem dL_238 : decode code 238 = .ok (.iaload, 1) := by decide +kernel
theorem dL_239 : decode code 239 = .ok (.aload_n 0, 1) := by decide +kernel
theorem dL_240 : decode code 240 = .ok (.iload_n 3, 1) := by decide +kernel
theorem dL_241 : decode code 241 = .ok (.iconst 2, 1) := by decide +kernel
theorem dL_242 : decode code 242 = .ok (.iadd, 1) := by decide +kernel
theorem dL_243 : decode code 243 = .ok (.iaload, 1) := by decide +kernel
theorem dL_244 : decode code 244 = .ok (.aload_n 0, 1) := by decide +kernel
theorem dL_245 : decode code 245 = .ok (.iload_n 3, 1) := by decide +kernel
theorem dL_246 : decode code 246 = .ok (.iconst 3, 1) := by decide +kernel
theorem dL_247 : decode code 247 = .ok (.iadd, 1) := by decide +kernel
theorem dL_248 : decode code 248 = .ok (.iaload, 1) := by decide +kernel
theorem dL_249 : decode code 249 = .ok (.invokevirtual 26, 3) := by decide +kernel
theorem dL_252 : decode code 252 = .ok (.if_icmp .eq 541, 3) := by decide +kernel
theorem dL_255 : decode code 255 = .ok (.iconst 0, 1) := by decide +kernel
theorem dL_256 : decode code 256 = .ok (.ireturn, 1) := by decide +kernel
theorem dL_257 : decode code 257 = .ok (.aload_n 1, 1) := by decide +kernel
theorem dL_258 : decode code 258 = .ok (.aload_n 0, 1) := by decide +kernel
theorem dL_259 : decode code 259 = .ok (.iload_n 3, 1) := by decide +kernel
theorem dL_260 : decode code 260 = .ok (.iconst 1, 1) := by decide +kernel
theorem dL_261 : decode code 261 = .ok (.iadd, 1) := by decide +kernel
theorem dL_262 : decode code 262 = .ok (.iaload, 1) := by decide +kernel
theorem dL_263 : decode code 263 = .ok (.invokevirtual 27, 3) := by decide +kernel
theorem dL_266 : decode code 266 = .ok (.aload_n 2, 1) := by decide +kernel
theorem dL_267 : decode code 267 = .ok (.aload_n 0, 1) := by decide +kernel
theorem dL_268 : decode code 268 = .ok (.iload_n 3, 1) := by decide +kernel
theorem dL_269 : decode code 269 = .ok (.iconst 1, 1) := by decide +kernel
theorem dL_270 : decode code 270 = .ok (.iadd, 1) := by decide +kernel
theorem dL_271 : decode code 271 = .ok (.iaload, 1) := by decide +kernel
theorem dL_272 : decode code 272 = .ok (.invokevirtual 30, 3) := by decide +kernel
theorem dL_275 : decode code 275 = .ok (.if_icmp .eq 518, 3) := by decide +kernel
theorem dL_278 : decode code 278 = .ok (.iconst 0, 1) := by decide +kernel
theorem dL_279 : decode code 279 = .ok (.ireturn, 1) := by decide +kernel
theorem dL_280 : decode code 280 = .ok (.aload_n 1, 1) := by decide +kernel
theorem dL_281 : decode code 281 = .ok (.aload_n 0, 1) := by decide +kernel
theorem dL_282 : decode code 282 = .ok (.iload_n 3, 1) := by decide +kernel
theorem dL_283 : decode code 283 = .ok (.iconst 1, 1) := by decide +kernel
theorem dL_284 : decode code 284 = .ok (.iadd, 1) := by decide +kernel
theorem dL_285 : decode code 285 = .ok (.iaload, 1) := by decide +kernel
theorem dL_286 : decode code 286 = .ok (.aload_n 0, 1) := by decide +kernel
theorem dL_287 : decode code 287 = .ok (.iload_n 3, 1) := by decide +kernel
theorem dL_288 : decode code 288 = .ok (.iconst 2, 1) := by decide +kernel
theorem dL_289 : decode code 289 = .ok (.iadd, 1) := by decide +kernel
theorem dL_290 : decode code 290 = .ok (.iaload, 1) := by decide +kernel
theorem dL_291 : decode code 291 = .ok (.invokevirtual 31, 3) := by decide +kernel
theorem dL_294 : decode code 294 = .ok (.aload_n 2, 1) := by decide +kernel
theorem dL_295 : decode code 295 = .ok (.aload_n 0, 1) := by decide +kernel
theorem dL_296 : decode code 296 = .ok (.iload_n 3, 1) := by decide +kernel
theorem dL_297 : decode code 297 = .ok (.iconst 1, 1) := by decide +kernel
theorem dL_298 : decode code 298 = .ok (.iadd, 1) := by decide +kernel
theorem dL_299 : decode code 299 = .ok (.iaload, 1) := by decide +kernel
theorem dL_300 : decode code 300 = .ok (.aload_n 0, 1) := by decide +kernel
theorem dL_301 : decode code 301 = .ok (.iload_n 3, 1) := by decide +kernel
theorem dL_302 : decode code 302 = .ok (.iconst 2, 1) := by decide +kernel
theorem dL_303 : decode code 303 = .ok (.iadd, 1) := by decide +kernel
theorem dL_304 : decode code 304 = .ok (.iaload, 1) := by decide +kernel
theorem dL_305 : decode code 305 = .ok (.invokevirtual 35, 3) := by decide +kernel
theorem dL_308 : decode code 308 = .ok (.if_icmp .eq 485, 3) := by decide +kernel
theorem dL_311 : decode code 311 = .ok (.iconst 0, 1) := by decide +kernel
theorem dL_312 : decode code 312 = .ok (.ireturn, 1) := by decide +kernel
theorem dL_313 : decode code 313 = .ok (.aload_n 1, 1) := by decide +kernel
theorem dL_314 : decode code 314 = .ok (.aload_n 0, 1) := by decide +kernel
theorem dL_315 : decode code 315 = .ok (.iload_n 3, 1) := by decide +kernel
theorem dL_316 : decode code 316 = .ok (.iconst 1, 1) := by decide +kernel
theorem dL_317 : decode code 317 = .ok (.iadd, 1) := by decide +kernel
theorem dL_318 : decode code 318 = .ok (.iaload, 1) := by decide +kernel
theorem dL_319 : decode code 319 = .ok (.invokevirtual 36, 3) := by decide +kernel
theorem dL_322 : decode code 322 = .ok (.aload_n 2, 1) := by decide +kernel
theorem dL_323 : decode code 323 = .ok (.aload_n 0, 1) := by decide +kernel
theorem dL_324 : decode code 324 = .ok (.iload_n 3, 1) := by decide +kernel
theorem dL_325 : decode code 325 = .ok (.iconst 1, 1) := by decide +kernel
theorem dL_326 : decode code 326 = .ok (.iadd, 1) := by decide +kernel
theorem dL_327 : decode code 327 = .ok (.iaload, 1) := by decide +kernel
theorem dL_328 : decode code 328 = .ok (.invokevirtual 39, 3) := by decide +kernel
theorem dL_331 : decode code 331 = .ok (.if_icmp .eq 462, 3) := by decide +kernel
theorem dL_334 : decode code 334 = .ok (.iconst 0, 1) := by decide +kernel
theorem dL_335 : decode code 335 = .ok (.ireturn, 1) := by decide +kernel
theorem dL_336 : decode code 336 = .ok (.aload_n 1, 1) := by decide +kernel
theorem dL_337 : decode code 337 = .ok (.aload_n 0, 1) := by decide +kernel
theorem dL_338 : decode code 338 = .ok (.iload_n 3, 1) := by decide +kernel
theorem dL_339 : decode code 339 = .ok (.iconst 1, 1) := by decide +kernel
theorem dL_340 : decode code 340 = .ok (.iadd, 1) := by decide +kernel
theorem dL_341 : decode code 341 = .ok (.iaload, 1) := by decide +kernel
theorem dL_342 : decode code 342 = .ok (.aload_n 0, 1) := by decide +kernel
theorem dL_343 : decode code 343 = .ok (.iload_n 3, 1) := by decide +kernel
theorem dL_344 : decode code 344 = .ok (.iconst 2, 1) := by decide +kernel
theorem dL_345 : decode code 345 = .ok (.iadd, 1) := by decide +kernel
theorem dL_346 : decode code 346 = .ok (.iaload, 1) := by decide +kernel
theorem dL_347 : decode code 347 = .ok (.invokevirtual 40, 3) := by decide +kernel
theorem dL_350 : decode code 350 = .ok (.aload_n 2, 1) := by decide +kernel
theorem dL_351 : decode code 351 = .ok (.aload_n 0, 1) := by decide +kernel
theorem dL_352 : decode code 352 = .ok (.iload_n 3, 1) := by decide +kernel
theorem dL_353 : decode code 353 = .ok (.iconst 1, 1) := by decide +kernel
theorem dL_354 : decode code 354 = .ok (.iadd, 1) := by decide +kernel
theorem dL_355 : decode code 355 = .ok (.iaload, 1) := by decide +kernel
theorem dL_356 : decode code 356 = .ok (.aload_n 0, 1) := by decide +kernel
theorem dL_357 : decode code 357 = .ok (.iload_n 3, 1) := by decide +kernel
theorem dL_358 : decode code 358 = .ok (.iconst 2, 1) := by decide +kernel
theorem dL_359 : decode code 359 = .ok (.iadd, 1) := by decide +kernel
theorem dL_360 : decode code 360 = .ok (.iaload, 1) := by decide +kernel
theorem dL_361 : decode code 361 = .ok (.invokevirtual 43, 3) := by decide +kernel
theorem dL_364 : decode code 364 = .ok (.if_icmp .eq 429, 3) := by decide +kernel
theorem dL_367 : decode code 367 = .ok (.iconst 0, 1) := by decide +kernel
theorem dL_368 : decode code 368 = .ok (.ireturn, 1) := by decide +kernel
theorem dL_369 : decode code 369 = .ok (.aload_n 1, 1) := by decide +kernel
theorem dL_370 : decode code 370 = .ok (.invokevirtual 44, 3) := by decide +kernel
theorem dL_373 : decode code 373 = .ok (.aload_n 2, 1) := by decide +kernel
theorem dL_374 : decode code 374 = .ok (.invokevirtual 48, 3) := by decide +kernel
theorem dL_377 : decode code 377 = .ok (.if_icmp .eq 416, 3) := by decide +kernel
theorem dL_380 : decode code 380 = .ok (.iconst 0, 1) := by decide +kernel
theorem dL_381 : decode code 381 = .ok (.ireturn, 1) := by decide +kernel
theorem dL_382 : decode code 382 = .ok (.aload_n 1, 1) := by decide +kernel
theorem dL_383 : decode code 383 = .ok (.aload_n 0, 1) := by decide +kernel
theorem dL_384 : decode code 384 = .ok (.iload_n 3, 1) := by decide +kernel
theorem dL_385 : decode code 385 = .ok (.iconst 1, 1) := by decide +kernel
theorem dL_386 : decode code 386 = .ok (.iadd, 1) := by decide +kernel
theorem dL_387 : decode code 387 = .ok (.iaload, 1) := by decide +kernel
theorem dL_388 : decode code 388 = .ok (.invokevirtual 49, 3) := by decide +kernel
theorem dL_391 : decode code 391 = .ok (.aload_n 2, 1) := by decide +kernel
theorem dL_392 : decode code 392 = .ok (.aload_n 0, 1) := by decide +kernel
theorem dL_393 : decode code 393 = .ok (.iload_n 3, 1) := by decide +kernel
theorem dL_394 : decode code 394 = .ok (.iconst 1, 1) := by decide +kernel
theorem dL_395 : decode code 395 = .ok (.iadd, 1) := by decide +kernel
theorem dL_396 : decode code 396 = .ok (.iaload, 1) := by decide +kernel
theorem dL_397 : decode code 397 = .ok (.invokevirtual 52, 3) := by decide +kernel
theorem dL_400 : decode code 400 = .ok (.if_icmp .eq 393, 3) := by decide +kernel
theorem dL_403 : decode code 403 = .ok (.iconst 0, 1) := by decide +kernel
theorem dL_404 : decode code 404 = .ok (.ireturn, 1) := by decide +kernel
theorem dL_405 : decode code 405 = .ok (.aload_n 1, 1) := by decide +kernel
theorem dL_406 : decode code 406 = .ok (.aload_n 0, 1) := by decide +kernel
theorem dL_407 : decode code 407 = .ok (.iload_n 3, 1) := by decide +kernel
theorem dL_408 : decode code 408 = .ok (.iconst 1, 1) := by decide +kernel
theorem dL_409 : decode code 409 = .ok (.iadd, 1) := by decide +kernel
theorem dL_410 : decode code 410 = .ok (.iaload, 1) := by decide +kernel
theorem dL_411 : decode code 411 = .ok (.aload_n 0, 1) := by decide +kernel
theorem dL_412 : decode code 412 = .ok (.iload_n 3, 1) := by decide +kernel
theorem dL_413 : decode code 413 = .ok (.iconst 2, 1) := by decide +kernel
theorem dL_414 : decode code 414 = .ok (.iadd, 1) := by decide +kernel
theorem dL_415 : decode code 415 = .ok (.iaload, 1) := by decide +kernel
theorem dL_416 : decode code 416 = .ok (.invokevirtual 53, 3) := by decide +kernel
theorem dL_419 : decode code 419 = .ok (.aload_n 2, 1) := by decide +kernel
theorem dL_420 : decode code 420 = .ok (.aload_n 0, 1) := by decide +kernel
theorem dL_421 : decode code 421 = .ok (.iload_n 3, 1) := by decide +kernel
theorem dL_422 : decode code 422 = .ok (.iconst 1, 1) := by decide +kernel
theorem dL_423 : decode code 423 = .ok (.iadd, 1) := by decide +kernel
theorem dL_424 : decode code 424 = .ok (.iaload, 1) := by decide +kernel
theorem dL_425 : decode code 425 = .ok (.aload_n 0, 1) := by decide +kernel
theorem dL_426 : decode code 426 = .ok (.iload_n 3, 1) := by decide +kernel
theorem dL_427 : decode code 427 = .ok (.iconst 2, 1) := by decide +kernel
theorem dL_428 : decode code 428 = .ok (.iadd, 1) := by decide +kernel
theorem dL_429 : decode code 429 = .ok (.iaload, 1) := by decide +kernel
theorem dL_430 : decode code 430 = .ok (.invokevirtual 56, 3) := by decide +kernel
theorem dL_433 : decode code 433 = .ok (.if_icmp .eq 360, 3) := by decide +kernel
theorem dL_436 : decode code 436 = .ok (.iconst 0, 1) := by decide +kernel
theorem dL_437 : decode code 437 = .ok (.ireturn, 1) := by decide +kernel
theorem dL_438 : decode code 438 = .ok (.aload_n 1, 1) := by decide +kernel
theorem dL_439 : decode code 439 = .ok (.aload_n 0, 1) := by decide +kernel
theorem dL_440 : decode code 440 = .ok (.iload_n 3, 1) := by decide +kernel
theorem dL_441 : decode code 441 = .ok (.iconst 1, 1) := by decide +kernel
theorem dL_442 : decode code 442 = .ok (.iadd, 1) := by decide +kernel
theorem dL_443 : decode code 443 = .ok (.iaload, 1) := by decide +kernel
theorem dL_444 : decode code 444 = .ok (.aload_n 0, 1) := by decide +kernel
theorem dL_445 : decode code 445 = .ok (.iload_n 3, 1) := by decide +kernel
theorem dL_446 : decode code 446 = .ok (.iconst 2, 1) := by decide +kernel
theorem dL_447 : decode code 447 = .ok (.iadd, 1) := by decide +kernel
theorem dL_448 : decode code 448 = .ok (.iaload, 1) := by decide +kernel
theorem dL_449 : decode code 449 = .ok (.invokevirtual 57, 3) := by decide +kernel
theorem dL_452 : decode code 452 = .ok (.aload_n 2, 1) := by decide +kernel
theorem dL_453 : decode code 453 = .ok (.aload_n 0, 1) := by decide +kernel
theorem dL_454 : decode code 454 = .ok (.iload_n 3, 1) := by decide +kernel
theorem dL_455 : decode code 455 = .ok (.iconst 1, 1) := by decide +kernel
theorem dL_456 : decode code 456 = .ok (.iadd, 1) := by decide +kernel
theorem dL_457 : decode code 457 = .ok (.iaload, 1) := by decide +kernel
theorem dL_458 : decode code 458 = .ok (.aload_n 0, 1) := by decide +kernel
theorem dL_459 : decode code 459 = .ok (.iload_n 3, 1) := by decide +kernel
theorem dL_460 : decode code 460 = .ok (.iconst 2, 1) := by decide +kernel
theorem dL_461 : decode code 461 = .ok (.iadd, 1) := by decide +kernel
theorem dL_462 : decode code 462 = .ok (.iaload, 1) := by decide +kernel
theorem dL_463 : decode code 463 = .ok (.invokevirtual 60, 3) := by decide +kernel
theorem dL_466 : decode code 466 = .ok (.if_icmp .eq 327, 3) := by decide +kernel
theorem dL_469 : decode code 469 = .ok (.iconst 0, 1) := by decide +kernel
theorem dL_470 : decode code 470 = .ok (.ireturn, 1) := by decide +kernel
theorem dL_471 : decode code 471 = .ok (.aload_n 1, 1) := by decide +kernel
theorem dL_472 : decode code 472 = .ok (.aload_n 0, 1) := by decide +kernel
theorem dL_473 : decode code 473 = .ok (.iload_n 3, 1) := by decide +kernel
theorem dL_474 : decode code 474 = .ok (.iconst 1, 1) := by decide +kernel
theorem dL_475 : decode code 475 = .ok (.iadd, 1) := by decide +kernel
theorem dL_476 : decode code 476 = .ok (.iaload, 1) := by decide +kernel
theorem dL_477 : decode code 477 = .ok (.invokevirtual 61, 3) := by decide +kernel
theorem dL_480 : decode code 480 = .ok (.aload_n 2, 1) := by decide +kernel
theorem dL_481 : decode code 481 = .ok (.aload_n 0, 1) := by decide +kernel
theorem dL_482 : decode code 482 = .ok (.iload_n 3, 1) := by decide +kernel
theorem dL_483 : decode code 483 = .ok (.iconst 1, 1) := by decide +kernel
theorem dL_484 : decode code 484 = .ok (.iadd, 1) := by decide +kernel
theorem dL_485 : decode code 485 = .ok (.iaload, 1) := by decide +kernel
theorem dL_486 : decode code 486 = .ok (.invokevirtual 64, 3) := by decide +kernel
theorem dL_489 : decode code 489 = .ok (.if_icmp .eq 304, 3) := by decide +kernel
theorem dL_492 : decode code 492 = .ok (.iconst 0, 1) := by decide +kernel
theorem dL_493 : decode code 493 = .ok (.ireturn, 1) := by decide +kernel
theorem dL_494 : decode code 494 = .ok (.aload_n 1, 1) := by decide +kernel
theorem dL_495 : decode code 495 = .ok (.aload_n 0, 1) := by decide +kernel
theorem dL_496 : decode code 496 = .ok (.iload_n 3, 1) := by decide +kernel
theorem dL_497 : decode code 497 = .ok (.iconst 1, 1) := by decide +kernel
theorem dL_498 : decode code 498 = .ok (.iadd, 1) := by decide +kernel
theorem dL_499 : decode code 499 = .ok (.iaload, 1) := by decide +kernel
theorem dL_500 : decode code 500 = .ok (.invokevirtual 65, 3) := by decide +kernel
theorem dL_503 : decode code 503 = .ok (.aload_n 2, 1) := by decide +kernel
theorem dL_504 : decode code 504 = .ok (.aload_n 0, 1) := by decide +kernel
theorem dL_505 : decode code 505 = .ok (.iload_n 3, 1) := by decide +kernel
theorem dL_506 : decode code 506 = .ok (.iconst 1, 1) := by decide +kernel
theorem dL_507 : decode code 507 = .ok (.iadd, 1) := by decide +kernel
theorem dL_508 : decode code 508 = .ok (.iaload, 1) := by decide +kernel
theorem dL_509 : decode code 509 = .ok (.invokevirtual 68, 3) := by decide +kernel
theorem dL_512 : decode code 512 = .ok (.if_icmp .eq 281, 3) := by decide +kernel
theorem dL_515 : decode code 515 = .ok (.iconst 0, 1) := by decide +kernel
theorem dL_516 : decode code 516 = .ok (.ireturn, 1) := by decide +kernel
theorem dL_517 : decode code 517 = .ok (.aload_n 1, 1) := by decide +kernel
theorem dL_518 : decode code 518 = .ok (.aload_n 0, 1) := by decide +kernel
theorem dL_519 : decode code 519 = .ok (.iload_n 3, 1) := by decide +kernel
theorem dL_520 : decode code 520 = .ok (.iconst 1, 1) := by decide +kernel
theorem dL_521 : decode code 521 = .ok (.iadd, 1) := by decide +kernel
theorem dL_522 : decode code 522 = .ok (.iaload, 1) := by decide +kernel
theorem dL_523 : decode code 523 = .ok (.invokevirtual 69, 3) := by decide +kernel
theorem dL_526 : decode code 526 = .ok (.aload_n 2, 1) := by decide +kernel
theorem dL_527 : decode code 527 = .ok (.aload_n 0, 1) := by decide +kernel
theorem dL_528 : decode code 528 = .ok (.iload_n 3, 1) := by decide +kernel
theorem dL_529 : decode code 529 = .ok (.iconst 1, 1) := by decide +kernel
theorem dL_530 : decode code 530 = .ok (.iadd, 1) := by decide +kernel
theorem dL_531 : decode code 531 = .ok (.iaload, 1) := by decide +kernel
theorem dL_532 : decode code 532 = .ok (.invokevirtual 72, 3) := by decide +kernel
theorem dL_535 : decode code 535 = .ok (.if_icmp .eq 258, 3) := by decide +kernel
theorem dL_538 : decode code 538 = .ok (.iconst 0, 1) := by decide +kernel
theorem dL_539 : decode code 539 = .ok (.ireturn, 1) := by decide +kernel
theorem dL_540 : decode code 540 = .ok (.aload_n 1, 1) := by decide +kernel
theorem dL_541 : decode code 541 = .ok (.aload_n 0, 1) := by decide +kernel
theorem dL_542 : decode code 542 = .ok (.iload_n 3, 1) := by decide +kernel
theorem dL_543 : decode code 543 = .ok (.iconst 1, 1) := by decide +kernel
theorem dL_544 : decode code 544 = .ok (.iadd, 1) := by decide +kernel
theorem dL_545 : decode code 545 = .ok (.iaload, 1) := by decide +kernel
theorem dL_546 : decode code 546 = .ok (.invokevirtual 73, 3) := by decide +kernel
theorem dL_549 : decode code 549 = .ok (.aload_n 2, 1) := by decide +kernel
theorem dL_550 : decode code 550 = .ok (.aload_n 0, 1) := by decide +kernel
theorem dL_551 : decode code 551 = .ok (.iload_n 3, 1) := by decide +kernel
theorem dL_552 : decode code 552 = .ok (.iconst 1, 1) := by decide +kernel
theorem dL_553 : decode code 553 = .ok (.iadd, 1) := by decide +kernel
theorem dL_554 : decode code 554 = .ok (.iaload, 1) := by decide +kernel
theorem dL_555 : decode code 555 = .ok (.invokevirtual 76, 3) := by decide +kernel
theorem dL_558 : decode code 558 = .ok (.if_icmp .eq 235, 3) := by decide +kernel
theorem dL_561 : decode code 561 = .ok (.iconst 0, 1) := by decide +kernel
theorem dL_562 : decode code 562 = .ok (.ireturn, 1) := by decide +kernel
theorem dL_563 : decode code 563 = .ok (.aload_n 1, 1) := by decide +kernel
theorem dL_564 : decode code 564 = .ok (.invokevirtual 77, 3) := by decide +kernel
theorem dL_567 : decode code 567 = .ok (.aload_n 2, 1) := by decide +kernel
theorem dL_568 : decode code 568 = .ok (.invokevirtual 80, 3) := by decide +kernel
theorem dL_571 : decode code 571 = .ok (.if_icmp .eq 222, 3) := by decide +kernel
theorem dL_574 : decode code 574 = .ok (.iconst 0, 1) := by decide +kernel
theorem dL_575 : decode code 575 = .ok (.ireturn, 1) := by decide +kernel
theorem dL_576 : decode code 576 = .ok (.aload_n 1, 1) := by decide +kernel
theorem dL_577 : decode code 577 = .ok (.aload_n 0, 1) := by decide +kernel
theorem dL_578 : decode code 578 = .ok (.iload_n 3, 1) := by decide +kernel
theorem dL_579 : decode code 579 = .ok (.iconst 1, 1) := by decide +kernel
theorem dL_580 : decode code 580 = .ok (.iadd, 1) := by decide +kernel
theorem dL_581 : decode code 581 = .ok (.iaload, 1) := by decide +kernel
theorem dL_582 : decode code 582 = .ok (.invokevirtual 81, 3) := by decide +kernel
theorem dL_585 : decode code 585 = .ok (.aload_n 2, 1) := by decide +kernel
theorem dL_586 : decode code 586 = .ok (.aload_n 0, 1) := by decide +kernel
theorem dL_587 : decode code 587 = .ok (.iload_n 3, 1) := by decide +kernel
theorem dL_588 : decode code 588 = .ok (.iconst 1, 1) := by decide +kernel
theorem dL_589 : decode code 589 = .ok (.iadd, 1) := by decide +kernel
theorem dL_590 : decode code 590 = .ok (.iaload, 1) := by decide +kernel
theorem dL_591 : decode code 591 = .ok (.invokevirtual 84, 3) := by decide +kernel
theorem dL_594 : decode code 594 = .ok (.if_icmp .eq 199, 3) := by decide +kernel
theorem dL_597 : decode code 597 = .ok (.iconst 0, 1) := by decide +kernel
theorem dL_598 : decode code 598 = .ok (.ireturn, 1) := by decide +kernel
theorem dL_599 : decode code 599 = .ok (.aload_n 1, 1) := by decide +kernel
theorem dL_600 : decode code 600 = .ok (.aload_n 0, 1) := by decide +kernel
theorem dL_601 : decode code 601 = .ok (.iload_n 3, 1) := by decide +kernel
theorem dL_602 : decode code 602 = .ok (.iconst 1, 1) := by decide +kernel
theorem dL_603 : decode code 603 = .ok (.iadd, 1) := by decide +kernel
theorem dL_604 : decode code 604 = .ok (.iaload, 1) := by decide +kernel
theorem dL_605 : decode code 605 = .ok (.invokevirtual 85, 3) := by decide +kernel
theorem dL_608 : decode code 608 = .ok (.aload_n 2, 1) := by decide +kernel
theorem dL_609 : decode code 609 = .ok (.aload_n 0, 1) := by decide +kernel
theorem dL_610 : decode code 610 = .ok (.iload_n 3, 1) := by decide +kernel
theorem dL_611 : decode code 611 = .ok (.iconst 1, 1) := by decide +kernel
theorem dL_612 : decode code 612 = .ok (.iadd, 1) := by decide +kernel
theorem dL_613 : decode code 613 = .ok (.iaload, 1) := by decide +kernel
theorem dL_614 : decode code 614 = .ok (.invokevirtual 88, 3) := by decide +kernel
theorem dL_617 : decode code 617 = .ok (.if_icmp .eq 176, 3) := by decide +kernel
theorem dL_620 : decode code 620 = .ok (.iconst 0, 1) := by decide +kernel
theorem dL_621 : decode code 621 = .ok (.ireturn, 1) := by decide +kernel
theorem dL_622 : decode code 622 = .ok (.aload_n 1, 1) := by decide +kernel
theorem dL_623 : decode code 623 = .ok (.aload_n 0, 1) := by decide +kernel
theorem dL_624 : decode code 624 = .ok (.iload_n 3, 1) := by decide +kernel
theorem dL_625 : decode code 625 = .ok (.iconst 1, 1) := by decide +kernel
theorem dL_626 : decode code 626 = .ok (.iadd, 1) := by decide +kernel
theorem dL_627 : decode code 627 = .ok (.iaload, 1) := by decide +kernel
theorem dL_628 : decode code 628 = .ok (.invokevirtual 89, 3) := by decide +kernel
theorem dL_631 : decode code 631 = .ok (.aload_n 2, 1) := by decide +kernel
theorem dL_632 : decode code 632 = .ok (.aload_n 0, 1) := by decide +kernel
theorem dL_633 : decode code 633 = .ok (.iload_n 3, 1) := by decide +kernel
theorem dL_634 : decode code 634 = .ok (.iconst 1, 1) := by decide +kernel
theorem dL_635 : decode code 635 = .ok (.iadd, 1) := by decide +kernel
theorem dL_636 : decode code 636 = .ok (.iaload, 1) := by decide +kernel
theorem dL_637 : decode code 637 = .ok (.invokevirtual 92, 3) := by decide +kernel
theorem dL_640 : decode code 640 = .ok (.if_icmp .eq 153, 3) := by decide +kernel
theorem dL_643 : decode code 643 = .ok (.iconst 0, 1) := by decide +kernel
theorem dL_644 : decode code 644 = .ok (.ireturn, 1) := by decide +kernel
theorem dL_645 : decode code 645 = .ok (.aload_n 1, 1) := by decide +kernel
theorem dL_646 : decode code 646 = .ok (.aload_n 0, 1) := by decide +kernel
theorem dL_647 : decode code 647 = .ok (.iload_n 3, 1) := by decide +kernel
theorem dL_648 : decode code 648 = .ok (.iconst 1, 1) := by decide +kernel
theorem dL_649 : decode code 649 = .ok (.iadd, 1) := by decide +kernel
theorem dL_650 : decode code 650 = .ok (.iaload, 1) := by decide +kernel
theorem dL_651 : decode code 651 = .ok (.invokevirtual 93, 3) := by decide +kernel
theorem dL_654 : decode code 654 = .ok (.aload_n 2, 1) := by decide +kernel
theorem dL_655 : decode code 655 = .ok (.aload_n 0, 1) := by decide +kernel
theorem dL_656 : decode code 656 = .ok (.iload_n 3, 1) := by decide +kernel
theorem dL_657 : decode code 657 = .ok (.iconst 1, 1) := by decide +kernel
theorem dL_658 : decode code 658 = .ok (.iadd, 1) := by decide +kernel
theorem dL_659 : decode code 659 = .ok (.iaload, 1) := by decide +kernel
theorem dL_660 : decode code 660 = .ok (.invokevirtual 96, 3) := by decide +kernel
theorem dL_663 : decode code 663 = .ok (.if_icmp .eq 130, 3) := by decide +kernel
theorem dL_666 : decode code 666 = .ok (.iconst 0, 1) := by decide +kernel
theorem dL_667 : decode code 667 = .ok (.ireturn, 1) := by decide +kernel
theorem dL_668 : decode code 668 = .ok (.aload_n 1, 1) := by decide +kernel
theorem dL_669 : decode code 669 = .ok (.invokevirtual 97, 3) := by decide +kernel
theorem dL_672 : decode code 672 = .ok (.aload_n 2, 1) := by decide +kernel
theorem dL_673 : decode code 673 = .ok (.invokevirtual 100, 3) := by decide +kernel
theorem dL_676 : decode code 676 = .ok (.if_icmp .eq 117, 3) := by decide +kernel
theorem dL_679 : decode code 679 = .ok (.iconst 0, 1) := by decide +kernel
theorem dL_680 : decode code 680 = .ok (.ireturn, 1) := by decide +kernel
theorem dL_681 : decode code 681 = .ok (.aload_n 1, 1) := by decide +kernel
theorem dL_682 : decode code 682 = .ok (.aload_n 0, 1) := by decide +kernel
theorem dL_683 : decode code 683 = .ok (.iload_n 3, 1) := by decide +kernel
theorem dL_684 : decode code 684 = .ok (.iconst 1, 1) := by decide +kernel
theorem dL_685 : decode code 685 = .ok (.iadd, 1) := by decide +kernel
theorem dL_686 : decode code 686 = .ok (.iaload, 1) := by decide +kernel
theorem dL_687 : decode code 687 = .ok (.aload_n 0, 1) := by decide +kernel
theorem dL_688 : decode code 688 = .ok (.iload_n 3, 1) := by decide +kernel
theorem dL_689 : decode code 689 = .ok (.iconst 2, 1) := by decide +kernel
theorem dL_690 : decode code 690 = .ok (.iadd, 1) := by decide +kernel
theorem dL_691 : decode code 691 = .ok (.iaload, 1) := by decide +kernel
theorem dL_692 : decode code 692 = .ok (.invokevirtual 101, 3) := by decide +kernel
theorem dL_695 : decode code 695 = .ok (.aload_n 2, 1) := by decide +kernel
theorem dL_696 : decode code 696 = .ok (.aload_n 0, 1) := by decide +kernel
theorem dL_697 : decode code 697 = .ok (.iload_n 3, 1) := by decide +kernel
theorem dL_698 : decode code 698 = .ok (.iconst 1, 1) := by decide +kernel
theorem dL_699 : decode code 699 = .ok (.iadd, 1) := by decide +kernel
theorem dL_700 : decode code 700 = .ok (.iaload, 1) := by decide +kernel
theorem dL_701 : decode code 701 = .ok (.aload_n 0, 1) := by decide +kernel
theorem dL_702 : decode code 702 = .ok (.iload_n 3, 1) := by decide +kernel
theorem dL_703 : decode code 703 = .ok (.iconst 2, 1) := by decide +kernel
theorem dL_704 : decode code 704 = .ok (.iadd, 1) := by decide +kernel
theorem dL_705 : decode code 705 = .ok (.iaload, 1) := by decide +kernel
theorem dL_706 : decode code 706 = .ok (.invokevirtual 104, 3) := by decide +kernel
theorem dL_709 : decode code 709 = .ok (.if_icmp .eq 84, 3) := by decide +kernel
theorem dL_712 : decode code 712 = .ok (.iconst 0, 1) := by decide +kernel
theorem dL_713 : decode code 713 = .ok (.ireturn, 1) := by decide +kernel
theorem dL_714 : decode code 714 = .ok (.aload_n 1, 1) := by decide +kernel
theorem dL_715 : decode code 715 = .ok (.aload_n 0, 1) := by decide +kernel
theorem dL_716 : decode code 716 = .ok (.iload_n 3, 1) := by decide +kernel
theorem dL_717 : decode code 717 = .ok (.iconst 1, 1) := by decide +kernel
theorem dL_718 : decode code 718 = .ok (.iadd, 1) := by decide +kernel
theorem dL_719 : decode code 719 = .ok (.iaload, 1) := by decide +kernel
theorem dL_720 : decode code 720 = .ok (.aload_n 0, 1) := by decide +kernel
theorem dL_721 : decode code 721 = .ok (.iload_n 3, 1) := by decide +kernel
theorem dL_722 : decode code 722 = .ok (.iconst 2, 1) := by decide +kernel
theorem dL_723 : decode code 723 = .ok (.iadd, 1) := by decide +kernel
theorem dL_724 : decode code 724 = .ok (.iaload, 1) := by decide +kernel
theorem dL_725 : decode code 725 = .ok (.invokevirtual 105, 3) := by decide +kernel
theorem dL_728 : decode code 728 = .ok (.aload_n 2, 1) := by decide +kernel
theorem dL_729 : decode code 729 = .ok (.aload_n 0, 1) := by decide +kernel
theorem dL_730 : decode code 730 = .ok (.iload_n 3, 1) := by decide +kernel
theorem dL_731 : decode code 731 = .ok (.iconst 1, 1) := by decide +kernel
theorem dL_732 : decode code 732 = .ok (.iadd, 1) := by decide +kernel
theorem dL_733 : decode code 733 = .ok (.iaload, 1) := by decide +kernel
theorem dL_734 : decode code 734 = .ok (.aload_n 0, 1) := by decide +kernel
theorem dL_735 : decode code 735 = .ok (.iload_n 3, 1) := by decide +kernel
theorem dL_736 : decode code 736 = .ok (.iconst 2, 1) := by decide +kernel
theorem dL_737 : decode code 737 = .ok (.iadd, 1) := by decide +kernel
theorem dL_738 : decode code 738 = .ok (.iaload, 1) := by decide +kernel
theorem dL_739 : decode code 739 = .ok (.invokevirtual 108, 3) := by decide +kernel
theorem dL_742 : decode code 742 = .ok (.if_icmp .eq 51, 3) := by decide +kernel
theorem dL_745 : decode code 745 = .ok (.iconst 0, 1) := by decide +kernel
theorem dL_746 : decode code 746 = .ok (.ireturn, 1) := by decide +kernel
theorem dL_747 : decode code 747 = .ok (.aload_n 1, 1) := by decide +kernel
theorem dL_748 : decode code 748 = .ok (.aload_n 0, 1) := by decide +kernel
theorem dL_749 : decode code 749 = .ok (.iload_n 3, 1) := by decide +kernel
theorem dL_750 : decode code 750 = .ok (.iconst 1, 1) := by decide +kernel
theorem dL_751 : decode code 751 = .ok (.iadd, 1) := by decide +kernel
theorem dL_752 : decode code 752 = .ok (.iaload, 1) := by decide +kernel
theorem dL_753 : decode code 753 = .ok (.invokevirtual 109, 3) := by decide +kernel
theorem dL_756 : decode code 756 = .ok (.aload_n 2, 1) := by decide +kernel
theorem dL_757 : decode code 757 = .ok (.aload_n 0, 1) := by decide +kernel
theorem dL_758 : decode code 758 = .ok (.iload_n 3, 1) := by decide +kernel
theorem dL_759 : decode code 759 = .ok (.iconst 1, 1) := by decide +kernel
theorem dL_760 : decode code 760 = .ok (.iadd, 1) := by decide +kernel
theorem dL_761 : decode code 761 = .ok (.iaload, 1) := by decide +kernel
theorem dL_762 : decode code 762 = .ok (.invokevirtual 112, 3) := by decide +kernel
theorem dL_765 : decode code 765 = .ok (.if_icmp .eq 28, 3) := by decide +kernel
theorem dL_768 : decode code 768 = .ok (.iconst 0, 1) := by decide +kernel
theorem dL_769 : decode code 769 = .ok (.ireturn, 1) := by decide +kernel
theorem dL_770 : decode code 770 = .ok (.aload_n 1, 1) := by decide +kernel
theorem dL_771 : decode code 771 = .ok (.aload_n 0, 1) := by decide +kernel
theorem dL_772 : decode code 772 = .ok (.iload_n 3, 1) := by decide +kernel
theorem dL_773 : decode code 773 = .ok (.iconst 1, 1) := by decide +kernel
theorem dL_774 : decode code 774 = .ok (.iadd, 1) := by decide +kernel
theorem dL_775 : decode code 775 = .ok (.iaload, 1) := by decide +kernel
theorem dL_776 : decode code 776 = .ok (.invokevirtual 113, 3) := by decide +kernel
theorem dL_779 : decode code 779 = .ok (.aload_n 2, 1) := by decide +kernel
theorem dL_780 : decode code 780 = .ok (.aload_n 0, 1) := by decide +kernel
theorem dL_781 : decode code 781 = .ok (.iload_n 3, 1) := by decide +kernel
theorem dL_782 : decode code 782 = .ok (.iconst 1, 1) := by decide +kernel
theorem dL_783 : decode code 783 = .ok (.iadd, 1) := by decide +kernel
theorem dL_784 : decode code 784 = .ok (.iaload, 1) := by decide +kernel
theorem dL_785 : decode code 785 = .ok (.invokevirtual 116, 3) := by decide +kernel
theorem dL_788 : decode code 788 = .ok (.if_icmp .eq 5, 3) := by decide +kernel
theorem dL_791 : decode code 791 = .ok (.iconst 0, 1) := by decide +kernel
theorem dL_792 : decode code 792 = .ok (.ireturn, 1) := by decide +kernel
theorem dL_793 : decode code 793 = .ok (.iinc 3 4, 3) := by decide +kernel
theorem dL_796 : decode code 796 = .ok (.goto (-778), 3) := by decide +kernel
theorem dL_799 : decode code 799 = .ok (.iconst 1, 1) := by decide +kernel
theorem dL_800 : decode code 800 = .ok (.ireturn, 1) := by decide +kernel
