/-! THE METHODS, BY PROGRAM (wip/whole/gen.py): what each means (w_..), and its contract (met_..) -/
theorem dL_law_0 : decode cL_law 0 = .ok (.new 8, 3) := by decide +kernel
theorem dL_law_3 : decode cL_law 3 = .ok (.dup, 1) := by decide +kernel
theorem dL_law_4 : decode cL_law 4 = .ok (.invokespecial 59, 3) := by decide +kernel
theorem dL_law_7 : decode cL_law 7 = .ok (.astore_n 1, 1) := by decide +kernel
theorem dL_law_8 : decode cL_law 8 = .ok (.new 60, 3) := by decide +kernel
theorem dL_law_11 : decode cL_law 11 = .ok (.dup, 1) := by decide +kernel
theorem dL_law_12 : decode cL_law 12 = .ok (.invokespecial 62, 3) := by decide +kernel
theorem dL_law_15 : decode cL_law 15 = .ok (.astore_n 2, 1) := by decide +kernel
theorem dL_law_16 : decode cL_law 16 = .ok (.iconst 1, 1) := by decide +kernel
theorem dL_law_17 : decode cL_law 17 = .ok (.newarray .long, 2) := by decide +kernel
theorem dL_law_19 : decode cL_law 19 = .ok (.astore_n 3, 1) := by decide +kernel
theorem dL_law_20 : decode cL_law 20 = .ok (.iconst 0, 1) := by decide +kernel
theorem dL_law_21 : decode cL_law 21 = .ok (.istore 4, 2) := by decide +kernel
theorem dL_law_23 : decode cL_law 23 = .ok (.iload 4, 2) := by decide +kernel
theorem dL_law_25 : decode cL_law 25 = .ok (.aload_n 0, 1) := by decide +kernel
theorem dL_law_26 : decode cL_law 26 = .ok (.arraylength, 1) := by decide +kernel
theorem dL_law_27 : decode cL_law 27 = .ok (.iconst 5, 1) := by decide +kernel
theorem dL_law_28 : decode cL_law 28 = .ok (.isub, 1) := by decide +kernel
theorem dL_law_29 : decode cL_law 29 = .ok (.if_icmp .gt 1101, 3) := by decide +kernel
theorem dL_law_32 : decode cL_law 32 = .ok (.aload_n 0, 1) := by decide +kernel
theorem dL_law_33 : decode cL_law 33 = .ok (.iload 4, 2) := by decide +kernel
theorem dL_law_35 : decode cL_law 35 = .ok (.iaload, 1) := by decide +kernel
theorem dL_law_36 : decode cL_law 36 = .ok (.bipush 31, 2) := by decide +kernel
theorem dL_law_38 : decode cL_law 38 = .ok (.iand, 1) := by decide +kernel
theorem dL_law_39 : decode cL_law 39 = .ok (.tableswitch 1085 0 19 #[93, 106, 174, 230, 322, 335, 379, 435, 448, 461, 541, 609, 689, 757, 825, 881, 937, 1017, 1030, 1071], 93) := by decide +kernel
theorem dL_law_132 : decode cL_law 132 = .ok (.aload_n 1, 1) := by decide +kernel
theorem dL_law_133 : decode cL_law 133 = .ok (.invokevirtual 63, 3) := by decide +kernel
theorem dL_law_136 : decode cL_law 136 = .ok (.aload_n 2, 1) := by decide +kernel
theorem dL_law_137 : decode cL_law 137 = .ok (.invokevirtual 66, 3) := by decide +kernel
theorem dL_law_140 : decode cL_law 140 = .ok (.if_icmp .eq 984, 3) := by decide +kernel
theorem dL_law_143 : decode cL_law 143 = .ok (.iconst 0, 1) := by decide +kernel
theorem dL_law_144 : decode cL_law 144 = .ok (.ireturn, 1) := by decide +kernel
theorem dL_law_145 : decode cL_law 145 = .ok (.aload_n 1, 1) := by decide +kernel
theorem dL_law_146 : decode cL_law 146 = .ok (.aload_n 0, 1) := by decide +kernel
theorem dL_law_147 : decode cL_law 147 = .ok (.iload 4, 2) := by decide +kernel
theorem dL_law_149 : decode cL_law 149 = .ok (.iconst 1, 1) := by decide +kernel
theorem dL_law_150 : decode cL_law 150 = .ok (.iadd, 1) := by decide +kernel
theorem dL_law_151 : decode cL_law 151 = .ok (.iaload, 1) := by decide +kernel
theorem dL_law_152 : decode cL_law 152 = .ok (.aload_n 0, 1) := by decide +kernel
theorem dL_law_153 : decode cL_law 153 = .ok (.iload 4, 2) := by decide +kernel
theorem dL_law_155 : decode cL_law 155 = .ok (.iconst 2, 1) := by decide +kernel
theorem dL_law_156 : decode cL_law 156 = .ok (.iadd, 1) := by decide +kernel
theorem dL_law_157 : decode cL_law 157 = .ok (.iaload, 1) := by decide +kernel
theorem dL_law_158 : decode cL_law 158 = .ok (.aload_n 3, 1) := by decide +kernel
theorem dL_law_159 : decode cL_law 159 = .ok (.invokestatic 67, 3) := by decide +kernel
theorem dL_law_162 : decode cL_law 162 = .ok (.istore 5, 2) := by decide +kernel
theorem dL_law_164 : decode cL_law 164 = .ok (.aload_n 2, 1) := by decide +kernel
theorem dL_law_165 : decode cL_law 165 = .ok (.aload_n 0, 1) := by decide +kernel
theorem dL_law_166 : decode cL_law 166 = .ok (.iload 4, 2) := by decide +kernel
theorem dL_law_168 : decode cL_law 168 = .ok (.iconst 1, 1) := by decide +kernel
theorem dL_law_169 : decode cL_law 169 = .ok (.iadd, 1) := by decide +kernel
theorem dL_law_170 : decode cL_law 170 = .ok (.iaload, 1) := by decide +kernel
theorem dL_law_171 : decode cL_law 171 = .ok (.aload_n 0, 1) := by decide +kernel
theorem dL_law_172 : decode cL_law 172 = .ok (.iload 4, 2) := by decide +kernel
theorem dL_law_174 : decode cL_law 174 = .ok (.iconst 2, 1) := by decide +kernel
theorem dL_law_175 : decode cL_law 175 = .ok (.iadd, 1) := by decide +kernel
theorem dL_law_176 : decode cL_law 176 = .ok (.iaload, 1) := by decide +kernel
theorem dL_law_177 : decode cL_law 177 = .ok (.invokevirtual 72, 3) := by decide +kernel
theorem dL_law_180 : decode cL_law 180 = .ok (.istore 6, 2) := by decide +kernel
theorem dL_law_182 : decode cL_law 182 = .ok (.aload_n 2, 1) := by decide +kernel
theorem dL_law_183 : decode cL_law 183 = .ok (.invokevirtual 73, 3) := by decide +kernel
theorem dL_law_186 : decode cL_law 186 = .ok (.iload 5, 2) := by decide +kernel
theorem dL_law_188 : decode cL_law 188 = .ok (.if_icmp .eq 5, 3) := by decide +kernel
theorem dL_law_191 : decode cL_law 191 = .ok (.iconst 0, 1) := by decide +kernel
theorem dL_law_192 : decode cL_law 192 = .ok (.ireturn, 1) := by decide +kernel
theorem dL_law_193 : decode cL_law 193 = .ok (.iload 5, 2) := by decide +kernel
theorem dL_law_195 : decode cL_law 195 = .ok (.ifCond .ne 15, 3) := by decide +kernel
theorem dL_law_198 : decode cL_law 198 = .ok (.aload_n 3, 1) := by decide +kernel
theorem dL_law_199 : decode cL_law 199 = .ok (.iconst 0, 1) := by decide +kernel
theorem dL_law_200 : decode cL_law 200 = .ok (.laload, 1) := by decide +kernel
theorem dL_law_201 : decode cL_law 201 = .ok (.iload 6, 2) := by decide +kernel
theorem dL_law_203 : decode cL_law 203 = .ok (.i2l, 1) := by decide +kernel
theorem dL_law_204 : decode cL_law 204 = .ok (.lcmp, 1) := by decide +kernel
theorem dL_law_205 : decode cL_law 205 = .ok (.ifCond .eq 5, 3) := by decide +kernel
theorem dL_law_208 : decode cL_law 208 = .ok (.iconst 0, 1) := by decide +kernel
theorem dL_law_209 : decode cL_law 209 = .ok (.ireturn, 1) := by decide +kernel
theorem dL_law_210 : decode cL_law 210 = .ok (.goto 914, 3) := by decide +kernel
theorem dL_law_213 : decode cL_law 213 = .ok (.aload_n 1, 1) := by decide +kernel
theorem dL_law_214 : decode cL_law 214 = .ok (.aload_n 0, 1) := by decide +kernel
theorem dL_law_215 : decode cL_law 215 = .ok (.iload 4, 2) := by decide +kernel
theorem dL_law_217 : decode cL_law 217 = .ok (.iconst 1, 1) := by decide +kernel
theorem dL_law_218 : decode cL_law 218 = .ok (.iadd, 1) := by decide +kernel
theorem dL_law_219 : decode cL_law 219 = .ok (.iaload, 1) := by decide +kernel
theorem dL_law_220 : decode cL_law 220 = .ok (.aload_n 3, 1) := by decide +kernel
theorem dL_law_221 : decode cL_law 221 = .ok (.invokestatic 76, 3) := by decide +kernel
theorem dL_law_224 : decode cL_law 224 = .ok (.istore 5, 2) := by decide +kernel
theorem dL_law_226 : decode cL_law 226 = .ok (.aload_n 2, 1) := by decide +kernel
theorem dL_law_227 : decode cL_law 227 = .ok (.aload_n 0, 1) := by decide +kernel
theorem dL_law_228 : decode cL_law 228 = .ok (.iload 4, 2) := by decide +kernel
theorem dL_law_230 : decode cL_law 230 = .ok (.iconst 1, 1) := by decide +kernel
theorem dL_law_231 : decode cL_law 231 = .ok (.iadd, 1) := by decide +kernel
theorem dL_law_232 : decode cL_law 232 = .ok (.iaload, 1) := by decide +kernel
theorem dL_law_233 : decode cL_law 233 = .ok (.invokevirtual 79, 3) := by decide +kernel
theorem dL_law_236 : decode cL_law 236 = .ok (.istore 6, 2) := by decide +kernel
theorem dL_law_238 : decode cL_law 238 = .ok (.aload_n 2, 1) := by decide +kernel
theorem dL_law_239 : decode cL_law 239 = .ok (.invokevirtual 73, 3) := by decide +kernel
theorem dL_law_242 : decode cL_law 242 = .ok (.iload 5, 2) := by decide +kernel
theorem dL_law_244 : decode cL_law 244 = .ok (.if_icmp .eq 5, 3) := by decide +kernel
theorem dL_law_247 : decode cL_law 247 = .ok (.iconst 0, 1) := by decide +kernel
theorem dL_law_248 : decode cL_law 248 = .ok (.ireturn, 1) := by decide +kernel
theorem dL_law_249 : decode cL_law 249 = .ok (.iload 5, 2) := by decide +kernel
theorem dL_law_251 : decode cL_law 251 = .ok (.ifCond .ne 15, 3) := by decide +kernel
theorem dL_law_254 : decode cL_law 254 = .ok (.aload_n 3, 1) := by decide +kernel
theorem dL_law_255 : decode cL_law 255 = .ok (.iconst 0, 1) := by decide +kernel
theorem dL_law_256 : decode cL_law 256 = .ok (.laload, 1) := by decide +kernel
theorem dL_law_257 : decode cL_law 257 = .ok (.iload 6, 2) := by decide +kernel
theorem dL_law_259 : decode cL_law 259 = .ok (.i2l, 1) := by decide +kernel
theorem dL_law_260 : decode cL_law 260 = .ok (.lcmp, 1) := by decide +kernel
theorem dL_law_261 : decode cL_law 261 = .ok (.ifCond .eq 5, 3) := by decide +kernel
theorem dL_law_264 : decode cL_law 264 = .ok (.iconst 0, 1) := by decide +kernel
theorem dL_law_265 : decode cL_law 265 = .ok (.ireturn, 1) := by decide +kernel
theorem dL_law_266 : decode cL_law 266 = .ok (.goto 858, 3) := by decide +kernel
theorem dL_law_269 : decode cL_law 269 = .ok (.aload_n 1, 1) := by decide +kernel
theorem dL_law_270 : decode cL_law 270 = .ok (.aload_n 0, 1) := by decide +kernel
theorem dL_law_271 : decode cL_law 271 = .ok (.iload 4, 2) := by decide +kernel
theorem dL_law_273 : decode cL_law 273 = .ok (.iconst 1, 1) := by decide +kernel
theorem dL_law_274 : decode cL_law 274 = .ok (.iadd, 1) := by decide +kernel
theorem dL_law_275 : decode cL_law 275 = .ok (.iaload, 1) := by decide +kernel
theorem dL_law_276 : decode cL_law 276 = .ok (.aload_n 0, 1) := by decide +kernel
theorem dL_law_277 : decode cL_law 277 = .ok (.iload 4, 2) := by decide +kernel
theorem dL_law_279 : decode cL_law 279 = .ok (.iconst 2, 1) := by decide +kernel
theorem dL_law_280 : decode cL_law 280 = .ok (.iadd, 1) := by decide +kernel
theorem dL_law_281 : decode cL_law 281 = .ok (.iaload, 1) := by decide +kernel
theorem dL_law_282 : decode cL_law 282 = .ok (.aload_n 0, 1) := by decide +kernel
theorem dL_law_283 : decode cL_law 283 = .ok (.iload 4, 2) := by decide +kernel
theorem dL_law_285 : decode cL_law 285 = .ok (.iconst 3, 1) := by decide +kernel
theorem dL_law_286 : decode cL_law 286 = .ok (.iadd, 1) := by decide +kernel
theorem dL_law_287 : decode cL_law 287 = .ok (.iaload, 1) := by decide +kernel
theorem dL_law_288 : decode cL_law 288 = .ok (.aload_n 0, 1) := by decide +kernel
theorem dL_law_289 : decode cL_law 289 = .ok (.iload 4, 2) := by decide +kernel
theorem dL_law_291 : decode cL_law 291 = .ok (.iconst 4, 1) := by decide +kernel
theorem dL_law_292 : decode cL_law 292 = .ok (.iadd, 1) := by decide +kernel
theorem dL_law_293 : decode cL_law 293 = .ok (.iaload, 1) := by decide +kernel
theorem dL_law_294 : decode cL_law 294 = .ok (.aload_n 3, 1) := by decide +kernel
theorem dL_law_295 : decode cL_law 295 = .ok (.invokestatic 80, 3) := by decide +kernel
theorem dL_law_298 : decode cL_law 298 = .ok (.istore 5, 2) := by decide +kernel
theorem dL_law_300 : decode cL_law 300 = .ok (.aload_n 2, 1) := by decide +kernel
theorem dL_law_301 : decode cL_law 301 = .ok (.aload_n 0, 1) := by decide +kernel
theorem dL_law_302 : decode cL_law 302 = .ok (.iload 4, 2) := by decide +kernel
theorem dL_law_304 : decode cL_law 304 = .ok (.iconst 1, 1) := by decide +kernel
theorem dL_law_305 : decode cL_law 305 = .ok (.iadd, 1) := by decide +kernel
theorem dL_law_306 : decode cL_law 306 = .ok (.iaload, 1) := by decide +kernel
theorem dL_law_307 : decode cL_law 307 = .ok (.aload_n 0, 1) := by decide +kernel
theorem dL_law_308 : decode cL_law 308 = .ok (.iload 4, 2) := by decide +kernel
theorem dL_law_310 : decode cL_law 310 = .ok (.iconst 2, 1) := by decide +kernel
theorem dL_law_311 : decode cL_law 311 = .ok (.iadd, 1) := by decide +kernel
theorem dL_law_312 : decode cL_law 312 = .ok (.iaload, 1) := by decide +kernel
theorem dL_law_313 : decode cL_law 313 = .ok (.aload_n 0, 1) := by decide +kernel
theorem dL_law_314 : decode cL_law 314 = .ok (.iload 4, 2) := by decide +kernel
theorem dL_law_316 : decode cL_law 316 = .ok (.iconst 3, 1) := by decide +kernel
theorem dL_law_317 : decode cL_law 317 = .ok (.iadd, 1) := by decide +kernel
theorem dL_law_318 : decode cL_law 318 = .ok (.iaload, 1) := by decide +kernel
theorem dL_law_319 : decode cL_law 319 = .ok (.aload_n 0, 1) := by decide +kernel
theorem dL_law_320 : decode cL_law 320 = .ok (.iload 4, 2) := by decide +kernel
theorem dL_law_322 : decode cL_law 322 = .ok (.iconst 4, 1) := by decide +kernel
theorem dL_law_323 : decode cL_law 323 = .ok (.iadd, 1) := by decide +kernel
theorem dL_law_324 : decode cL_law 324 = .ok (.iaload, 1) := by decide +kernel
theorem dL_law_325 : decode cL_law 325 = .ok (.invokevirtual 83, 3) := by decide +kernel
theorem dL_law_328 : decode cL_law 328 = .ok (.istore 6, 2) := by decide +kernel
theorem dL_law_330 : decode cL_law 330 = .ok (.aload_n 2, 1) := by decide +kernel
theorem dL_law_331 : decode cL_law 331 = .ok (.invokevirtual 73, 3) := by decide +kernel
theorem dL_law_334 : decode cL_law 334 = .ok (.iload 5, 2) := by decide +kernel
theorem dL_law_336 : decode cL_law 336 = .ok (.if_icmp .eq 5, 3) := by decide +kernel
theorem dL_law_339 : decode cL_law 339 = .ok (.iconst 0, 1) := by decide +kernel
theorem dL_law_340 : decode cL_law 340 = .ok (.ireturn, 1) := by decide +kernel
theorem dL_law_341 : decode cL_law 341 = .ok (.iload 5, 2) := by decide +kernel
theorem dL_law_343 : decode cL_law 343 = .ok (.ifCond .ne 15, 3) := by decide +kernel
theorem dL_law_346 : decode cL_law 346 = .ok (.aload_n 3, 1) := by decide +kernel
theorem dL_law_347 : decode cL_law 347 = .ok (.iconst 0, 1) := by decide +kernel
theorem dL_law_348 : decode cL_law 348 = .ok (.laload, 1) := by decide +kernel
theorem dL_law_349 : decode cL_law 349 = .ok (.iload 6, 2) := by decide +kernel
theorem dL_law_351 : decode cL_law 351 = .ok (.i2l, 1) := by decide +kernel
theorem dL_law_352 : decode cL_law 352 = .ok (.lcmp, 1) := by decide +kernel
theorem dL_law_353 : decode cL_law 353 = .ok (.ifCond .eq 5, 3) := by decide +kernel
theorem dL_law_356 : decode cL_law 356 = .ok (.iconst 0, 1) := by decide +kernel
theorem dL_law_357 : decode cL_law 357 = .ok (.ireturn, 1) := by decide +kernel
theorem dL_law_358 : decode cL_law 358 = .ok (.goto 766, 3) := by decide +kernel
theorem dL_law_361 : decode cL_law 361 = .ok (.aload_n 1, 1) := by decide +kernel
theorem dL_law_362 : decode cL_law 362 = .ok (.invokevirtual 84, 3) := by decide +kernel
theorem dL_law_365 : decode cL_law 365 = .ok (.aload_n 2, 1) := by decide +kernel
theorem dL_law_366 : decode cL_law 366 = .ok (.invokevirtual 87, 3) := by decide +kernel
theorem dL_law_369 : decode cL_law 369 = .ok (.if_icmp .eq 755, 3) := by decide +kernel
theorem dL_law_372 : decode cL_law 372 = .ok (.iconst 0, 1) := by decide +kernel
theorem dL_law_373 : decode cL_law 373 = .ok (.ireturn, 1) := by decide +kernel
theorem dL_law_374 : decode cL_law 374 = .ok (.aload_n 1, 1) := by decide +kernel
theorem dL_law_375 : decode cL_law 375 = .ok (.aload_n 3, 1) := by decide +kernel
theorem dL_law_376 : decode cL_law 376 = .ok (.invokestatic 88, 3) := by decide +kernel
theorem dL_law_379 : decode cL_law 379 = .ok (.istore 5, 2) := by decide +kernel
theorem dL_law_381 : decode cL_law 381 = .ok (.aload_n 2, 1) := by decide +kernel
theorem dL_law_382 : decode cL_law 382 = .ok (.invokevirtual 91, 3) := by decide +kernel
theorem dL_law_385 : decode cL_law 385 = .ok (.istore 6, 2) := by decide +kernel
theorem dL_law_387 : decode cL_law 387 = .ok (.aload_n 2, 1) := by decide +kernel
theorem dL_law_388 : decode cL_law 388 = .ok (.invokevirtual 73, 3) := by decide +kernel
theorem dL_law_391 : decode cL_law 391 = .ok (.iload 5, 2) := by decide +kernel
theorem dL_law_393 : decode cL_law 393 = .ok (.if_icmp .eq 5, 3) := by decide +kernel
theorem dL_law_396 : decode cL_law 396 = .ok (.iconst 0, 1) := by decide +kernel
theorem dL_law_397 : decode cL_law 397 = .ok (.ireturn, 1) := by decide +kernel
theorem dL_law_398 : decode cL_law 398 = .ok (.iload 5, 2) := by decide +kernel
theorem dL_law_400 : decode cL_law 400 = .ok (.ifCond .ne 15, 3) := by decide +kernel
theorem dL_law_403 : decode cL_law 403 = .ok (.aload_n 3, 1) := by decide +kernel
theorem dL_law_404 : decode cL_law 404 = .ok (.iconst 0, 1) := by decide +kernel
theorem dL_law_405 : decode cL_law 405 = .ok (.laload, 1) := by decide +kernel
theorem dL_law_406 : decode cL_law 406 = .ok (.iload 6, 2) := by decide +kernel
theorem dL_law_408 : decode cL_law 408 = .ok (.i2l, 1) := by decide +kernel
theorem dL_law_409 : decode cL_law 409 = .ok (.lcmp, 1) := by decide +kernel
theorem dL_law_410 : decode cL_law 410 = .ok (.ifCond .eq 5, 3) := by decide +kernel
theorem dL_law_413 : decode cL_law 413 = .ok (.iconst 0, 1) := by decide +kernel
theorem dL_law_414 : decode cL_law 414 = .ok (.ireturn, 1) := by decide +kernel
theorem dL_law_415 : decode cL_law 415 = .ok (.goto 709, 3) := by decide +kernel
theorem dL_law_418 : decode cL_law 418 = .ok (.aload_n 1, 1) := by decide +kernel
theorem dL_law_419 : decode cL_law 419 = .ok (.aload_n 0, 1) := by decide +kernel
theorem dL_law_420 : decode cL_law 420 = .ok (.iload 4, 2) := by decide +kernel
theorem dL_law_422 : decode cL_law 422 = .ok (.iconst 1, 1) := by decide +kernel
theorem dL_law_423 : decode cL_law 423 = .ok (.iadd, 1) := by decide +kernel
theorem dL_law_424 : decode cL_law 424 = .ok (.iaload, 1) := by decide +kernel
theorem dL_law_425 : decode cL_law 425 = .ok (.aload_n 3, 1) := by decide +kernel
theorem dL_law_426 : decode cL_law 426 = .ok (.invokestatic 92, 3) := by decide +kernel
theorem dL_law_429 : decode cL_law 429 = .ok (.istore 5, 2) := by decide +kernel
theorem dL_law_431 : decode cL_law 431 = .ok (.aload_n 2, 1) := by decide +kernel
theorem dL_law_432 : decode cL_law 432 = .ok (.aload_n 0, 1) := by decide +kernel
theorem dL_law_433 : decode cL_law 433 = .ok (.iload 4, 2) := by decide +kernel
theorem dL_law_435 : decode cL_law 435 = .ok (.iconst 1, 1) := by decide +kernel
theorem dL_law_436 : decode cL_law 436 = .ok (.iadd, 1) := by decide +kernel
theorem dL_law_437 : decode cL_law 437 = .ok (.iaload, 1) := by decide +kernel
theorem dL_law_438 : decode cL_law 438 = .ok (.invokevirtual 94, 3) := by decide +kernel
theorem dL_law_441 : decode cL_law 441 = .ok (.istore 6, 2) := by decide +kernel
theorem dL_law_443 : decode cL_law 443 = .ok (.aload_n 2, 1) := by decide +kernel
theorem dL_law_444 : decode cL_law 444 = .ok (.invokevirtual 73, 3) := by decide +kernel
theorem dL_law_447 : decode cL_law 447 = .ok (.iload 5, 2) := by decide +kernel
theorem dL_law_449 : decode cL_law 449 = .ok (.if_icmp .eq 5, 3) := by decide +kernel
theorem dL_law_452 : decode cL_law 452 = .ok (.iconst 0, 1) := by decide +kernel
theorem dL_law_453 : decode cL_law 453 = .ok (.ireturn, 1) := by decide +kernel
theorem dL_law_454 : decode cL_law 454 = .ok (.iload 5, 2) := by decide +kernel
theorem dL_law_456 : decode cL_law 456 = .ok (.ifCond .ne 15, 3) := by decide +kernel
theorem dL_law_459 : decode cL_law 459 = .ok (.aload_n 3, 1) := by decide +kernel
theorem dL_law_460 : decode cL_law 460 = .ok (.iconst 0, 1) := by decide +kernel
theorem dL_law_461 : decode cL_law 461 = .ok (.laload, 1) := by decide +kernel
theorem dL_law_462 : decode cL_law 462 = .ok (.iload 6, 2) := by decide +kernel
theorem dL_law_464 : decode cL_law 464 = .ok (.i2l, 1) := by decide +kernel
theorem dL_law_465 : decode cL_law 465 = .ok (.lcmp, 1) := by decide +kernel
theorem dL_law_466 : decode cL_law 466 = .ok (.ifCond .eq 5, 3) := by decide +kernel
theorem dL_law_469 : decode cL_law 469 = .ok (.iconst 0, 1) := by decide +kernel
theorem dL_law_470 : decode cL_law 470 = .ok (.ireturn, 1) := by decide +kernel
theorem dL_law_471 : decode cL_law 471 = .ok (.goto 653, 3) := by decide +kernel
theorem dL_law_474 : decode cL_law 474 = .ok (.aload_n 1, 1) := by decide +kernel
theorem dL_law_475 : decode cL_law 475 = .ok (.invokevirtual 95, 3) := by decide +kernel
theorem dL_law_478 : decode cL_law 478 = .ok (.aload_n 2, 1) := by decide +kernel
theorem dL_law_479 : decode cL_law 479 = .ok (.invokevirtual 98, 3) := by decide +kernel
theorem dL_law_482 : decode cL_law 482 = .ok (.if_icmp .eq 642, 3) := by decide +kernel
theorem dL_law_485 : decode cL_law 485 = .ok (.iconst 0, 1) := by decide +kernel
theorem dL_law_486 : decode cL_law 486 = .ok (.ireturn, 1) := by decide +kernel
theorem dL_law_487 : decode cL_law 487 = .ok (.aload_n 1, 1) := by decide +kernel
theorem dL_law_488 : decode cL_law 488 = .ok (.invokevirtual 99, 3) := by decide +kernel
theorem dL_law_491 : decode cL_law 491 = .ok (.aload_n 2, 1) := by decide +kernel
theorem dL_law_492 : decode cL_law 492 = .ok (.invokevirtual 102, 3) := by decide +kernel
theorem dL_law_495 : decode cL_law 495 = .ok (.if_icmp .eq 629, 3) := by decide +kernel
theorem dL_law_498 : decode cL_law 498 = .ok (.iconst 0, 1) := by decide +kernel
theorem dL_law_499 : decode cL_law 499 = .ok (.ireturn, 1) := by decide +kernel
theorem dL_law_500 : decode cL_law 500 = .ok (.aload_n 1, 1) := by decide +kernel
theorem dL_law_501 : decode cL_law 501 = .ok (.aload_n 0, 1) := by decide +kernel
theorem dL_law_502 : decode cL_law 502 = .ok (.iload 4, 2) := by decide +kernel
theorem dL_law_504 : decode cL_law 504 = .ok (.iconst 1, 1) := by decide +kernel
theorem dL_law_505 : decode cL_law 505 = .ok (.iadd, 1) := by decide +kernel
theorem dL_law_506 : decode cL_law 506 = .ok (.iaload, 1) := by decide +kernel
theorem dL_law_507 : decode cL_law 507 = .ok (.aload_n 0, 1) := by decide +kernel
theorem dL_law_508 : decode cL_law 508 = .ok (.iload 4, 2) := by decide +kernel
theorem dL_law_510 : decode cL_law 510 = .ok (.iconst 2, 1) := by decide +kernel
theorem dL_law_511 : decode cL_law 511 = .ok (.iadd, 1) := by decide +kernel
theorem dL_law_512 : decode cL_law 512 = .ok (.iaload, 1) := by decide +kernel
theorem dL_law_513 : decode cL_law 513 = .ok (.aload_n 0, 1) := by decide +kernel
theorem dL_law_514 : decode cL_law 514 = .ok (.iload 4, 2) := by decide +kernel
theorem dL_law_516 : decode cL_law 516 = .ok (.iconst 3, 1) := by decide +kernel
theorem dL_law_517 : decode cL_law 517 = .ok (.iadd, 1) := by decide +kernel
theorem dL_law_518 : decode cL_law 518 = .ok (.iaload, 1) := by decide +kernel
theorem dL_law_519 : decode cL_law 519 = .ok (.aload_n 3, 1) := by decide +kernel
theorem dL_law_520 : decode cL_law 520 = .ok (.invokestatic 103, 3) := by decide +kernel
theorem dL_law_523 : decode cL_law 523 = .ok (.istore 5, 2) := by decide +kernel
theorem dL_law_525 : decode cL_law 525 = .ok (.aload_n 2, 1) := by decide +kernel
theorem dL_law_526 : decode cL_law 526 = .ok (.aload_n 0, 1) := by decide +kernel
theorem dL_law_527 : decode cL_law 527 = .ok (.iload 4, 2) := by decide +kernel
theorem dL_law_529 : decode cL_law 529 = .ok (.iconst 1, 1) := by decide +kernel
theorem dL_law_530 : decode cL_law 530 = .ok (.iadd, 1) := by decide +kernel
theorem dL_law_531 : decode cL_law 531 = .ok (.iaload, 1) := by decide +kernel
theorem dL_law_532 : decode cL_law 532 = .ok (.aload_n 0, 1) := by decide +kernel
theorem dL_law_533 : decode cL_law 533 = .ok (.iload 4, 2) := by decide +kernel
theorem dL_law_535 : decode cL_law 535 = .ok (.iconst 2, 1) := by decide +kernel
theorem dL_law_536 : decode cL_law 536 = .ok (.iadd, 1) := by decide +kernel
theorem dL_law_537 : decode cL_law 537 = .ok (.iaload, 1) := by decide +kernel
theorem dL_law_538 : decode cL_law 538 = .ok (.aload_n 0, 1) := by decide +kernel
theorem dL_law_539 : decode cL_law 539 = .ok (.iload 4, 2) := by decide +kernel
theorem dL_law_541 : decode cL_law 541 = .ok (.iconst 3, 1) := by decide +kernel
theorem dL_law_542 : decode cL_law 542 = .ok (.iadd, 1) := by decide +kernel
theorem dL_law_543 : decode cL_law 543 = .ok (.iaload, 1) := by decide +kernel
theorem dL_law_544 : decode cL_law 544 = .ok (.invokevirtual 106, 3) := by decide +kernel
theorem dL_law_547 : decode cL_law 547 = .ok (.istore 6, 2) := by decide +kernel
theorem dL_law_549 : decode cL_law 549 = .ok (.aload_n 2, 1) := by decide +kernel
theorem dL_law_550 : decode cL_law 550 = .ok (.invokevirtual 73, 3) := by decide +kernel
theorem dL_law_553 : decode cL_law 553 = .ok (.iload 5, 2) := by decide +kernel
theorem dL_law_555 : decode cL_law 555 = .ok (.if_icmp .eq 5, 3) := by decide +kernel
theorem dL_law_558 : decode cL_law 558 = .ok (.iconst 0, 1) := by decide +kernel
theorem dL_law_559 : decode cL_law 559 = .ok (.ireturn, 1) := by decide +kernel
theorem dL_law_560 : decode cL_law 560 = .ok (.iload 5, 2) := by decide +kernel
theorem dL_law_562 : decode cL_law 562 = .ok (.ifCond .ne 15, 3) := by decide +kernel
theorem dL_law_565 : decode cL_law 565 = .ok (.aload_n 3, 1) := by decide +kernel
theorem dL_law_566 : decode cL_law 566 = .ok (.iconst 0, 1) := by decide +kernel
theorem dL_law_567 : decode cL_law 567 = .ok (.laload, 1) := by decide +kernel
theorem dL_law_568 : decode cL_law 568 = .ok (.iload 6, 2) := by decide +kernel
theorem dL_law_570 : decode cL_law 570 = .ok (.i2l, 1) := by decide +kernel
theorem dL_law_571 : decode cL_law 571 = .ok (.lcmp, 1) := by decide +kernel
theorem dL_law_572 : decode cL_law 572 = .ok (.ifCond .eq 5, 3) := by decide +kernel
theorem dL_law_575 : decode cL_law 575 = .ok (.iconst 0, 1) := by decide +kernel
theorem dL_law_576 : decode cL_law 576 = .ok (.ireturn, 1) := by decide +kernel
theorem dL_law_577 : decode cL_law 577 = .ok (.goto 547, 3) := by decide +kernel
theorem dL_law_580 : decode cL_law 580 = .ok (.aload_n 1, 1) := by decide +kernel
theorem dL_law_581 : decode cL_law 581 = .ok (.aload_n 0, 1) := by decide +kernel
theorem dL_law_582 : decode cL_law 582 = .ok (.iload 4, 2) := by decide +kernel
theorem dL_law_584 : decode cL_law 584 = .ok (.iconst 1, 1) := by decide +kernel
theorem dL_law_585 : decode cL_law 585 = .ok (.iadd, 1) := by decide +kernel
theorem dL_law_586 : decode cL_law 586 = .ok (.iaload, 1) := by decide +kernel
theorem dL_law_587 : decode cL_law 587 = .ok (.aload_n 0, 1) := by decide +kernel
theorem dL_law_588 : decode cL_law 588 = .ok (.iload 4, 2) := by decide +kernel
theorem dL_law_590 : decode cL_law 590 = .ok (.iconst 2, 1) := by decide +kernel
theorem dL_law_591 : decode cL_law 591 = .ok (.iadd, 1) := by decide +kernel
theorem dL_law_592 : decode cL_law 592 = .ok (.iaload, 1) := by decide +kernel
theorem dL_law_593 : decode cL_law 593 = .ok (.aload_n 3, 1) := by decide +kernel
theorem dL_law_594 : decode cL_law 594 = .ok (.invokestatic 107, 3) := by decide +kernel
theorem dL_law_597 : decode cL_law 597 = .ok (.istore 5, 2) := by decide +kernel
theorem dL_law_599 : decode cL_law 599 = .ok (.aload_n 2, 1) := by decide +kernel
theorem dL_law_600 : decode cL_law 600 = .ok (.aload_n 0, 1) := by decide +kernel
theorem dL_law_601 : decode cL_law 601 = .ok (.iload 4, 2) := by decide +kernel
theorem dL_law_603 : decode cL_law 603 = .ok (.iconst 1, 1) := by decide +kernel
theorem dL_law_604 : decode cL_law 604 = .ok (.iadd, 1) := by decide +kernel
theorem dL_law_605 : decode cL_law 605 = .ok (.iaload, 1) := by decide +kernel
theorem dL_law_606 : decode cL_law 606 = .ok (.aload_n 0, 1) := by decide +kernel
theorem dL_law_607 : decode cL_law 607 = .ok (.iload 4, 2) := by decide +kernel
theorem dL_law_609 : decode cL_law 609 = .ok (.iconst 2, 1) := by decide +kernel
theorem dL_law_610 : decode cL_law 610 = .ok (.iadd, 1) := by decide +kernel
theorem dL_law_611 : decode cL_law 611 = .ok (.iaload, 1) := by decide +kernel
theorem dL_law_612 : decode cL_law 612 = .ok (.invokevirtual 109, 3) := by decide +kernel
theorem dL_law_615 : decode cL_law 615 = .ok (.istore 6, 2) := by decide +kernel
theorem dL_law_617 : decode cL_law 617 = .ok (.aload_n 2, 1) := by decide +kernel
theorem dL_law_618 : decode cL_law 618 = .ok (.invokevirtual 73, 3) := by decide +kernel
theorem dL_law_621 : decode cL_law 621 = .ok (.iload 5, 2) := by decide +kernel
theorem dL_law_623 : decode cL_law 623 = .ok (.if_icmp .eq 5, 3) := by decide +kernel
theorem dL_law_626 : decode cL_law 626 = .ok (.iconst 0, 1) := by decide +kernel
theorem dL_law_627 : decode cL_law 627 = .ok (.ireturn, 1) := by decide +kernel
theorem dL_law_628 : decode cL_law 628 = .ok (.iload 5, 2) := by decide +kernel
theorem dL_law_630 : decode cL_law 630 = .ok (.ifCond .ne 15, 3) := by decide +kernel
theorem dL_law_633 : decode cL_law 633 = .ok (.aload_n 3, 1) := by decide +kernel
theorem dL_law_634 : decode cL_law 634 = .ok (.iconst 0, 1) := by decide +kernel
theorem dL_law_635 : decode cL_law 635 = .ok (.laload, 1) := by decide +kernel
theorem dL_law_636 : decode cL_law 636 = .ok (.iload 6, 2) := by decide +kernel
theorem dL_law_638 : decode cL_law 638 = .ok (.i2l, 1) := by decide +kernel
theorem dL_law_639 : decode cL_law 639 = .ok (.lcmp, 1) := by decide +kernel
theorem dL_law_640 : decode cL_law 640 = .ok (.ifCond .eq 5, 3) := by decide +kernel
theorem dL_law_643 : decode cL_law 643 = .ok (.iconst 0, 1) := by decide +kernel
theorem dL_law_644 : decode cL_law 644 = .ok (.ireturn, 1) := by decide +kernel
theorem dL_law_645 : decode cL_law 645 = .ok (.goto 479, 3) := by decide +kernel
theorem dL_law_648 : decode cL_law 648 = .ok (.aload_n 1, 1) := by decide +kernel
theorem dL_law_649 : decode cL_law 649 = .ok (.aload_n 0, 1) := by decide +kernel
theorem dL_law_650 : decode cL_law 650 = .ok (.iload 4, 2) := by decide +kernel
theorem dL_law_652 : decode cL_law 652 = .ok (.iconst 1, 1) := by decide +kernel
theorem dL_law_653 : decode cL_law 653 = .ok (.iadd, 1) := by decide +kernel
theorem dL_law_654 : decode cL_law 654 = .ok (.iaload, 1) := by decide +kernel
theorem dL_law_655 : decode cL_law 655 = .ok (.aload_n 0, 1) := by decide +kernel
theorem dL_law_656 : decode cL_law 656 = .ok (.iload 4, 2) := by decide +kernel
theorem dL_law_658 : decode cL_law 658 = .ok (.iconst 2, 1) := by decide +kernel
theorem dL_law_659 : decode cL_law 659 = .ok (.iadd, 1) := by decide +kernel
theorem dL_law_660 : decode cL_law 660 = .ok (.iaload, 1) := by decide +kernel
theorem dL_law_661 : decode cL_law 661 = .ok (.aload_n 0, 1) := by decide +kernel
theorem dL_law_662 : decode cL_law 662 = .ok (.iload 4, 2) := by decide +kernel
theorem dL_law_664 : decode cL_law 664 = .ok (.iconst 3, 1) := by decide +kernel
theorem dL_law_665 : decode cL_law 665 = .ok (.iadd, 1) := by decide +kernel
theorem dL_law_666 : decode cL_law 666 = .ok (.iaload, 1) := by decide +kernel
theorem dL_law_667 : decode cL_law 667 = .ok (.aload_n 3, 1) := by decide +kernel
theorem dL_law_668 : decode cL_law 668 = .ok (.invokestatic 110, 3) := by decide +kernel
theorem dL_law_671 : decode cL_law 671 = .ok (.istore 5, 2) := by decide +kernel
theorem dL_law_673 : decode cL_law 673 = .ok (.aload_n 2, 1) := by decide +kernel
theorem dL_law_674 : decode cL_law 674 = .ok (.aload_n 0, 1) := by decide +kernel
theorem dL_law_675 : decode cL_law 675 = .ok (.iload 4, 2) := by decide +kernel
theorem dL_law_677 : decode cL_law 677 = .ok (.iconst 1, 1) := by decide +kernel
theorem dL_law_678 : decode cL_law 678 = .ok (.iadd, 1) := by decide +kernel
theorem dL_law_679 : decode cL_law 679 = .ok (.iaload, 1) := by decide +kernel
theorem dL_law_680 : decode cL_law 680 = .ok (.aload_n 0, 1) := by decide +kernel
theorem dL_law_681 : decode cL_law 681 = .ok (.iload 4, 2) := by decide +kernel
theorem dL_law_683 : decode cL_law 683 = .ok (.iconst 2, 1) := by decide +kernel
theorem dL_law_684 : decode cL_law 684 = .ok (.iadd, 1) := by decide +kernel
theorem dL_law_685 : decode cL_law 685 = .ok (.iaload, 1) := by decide +kernel
theorem dL_law_686 : decode cL_law 686 = .ok (.aload_n 0, 1) := by decide +kernel
theorem dL_law_687 : decode cL_law 687 = .ok (.iload 4, 2) := by decide +kernel
theorem dL_law_689 : decode cL_law 689 = .ok (.iconst 3, 1) := by decide +kernel
theorem dL_law_690 : decode cL_law 690 = .ok (.iadd, 1) := by decide +kernel
theorem dL_law_691 : decode cL_law 691 = .ok (.iaload, 1) := by decide +kernel
theorem dL_law_692 : decode cL_law 692 = .ok (.invokevirtual 112, 3) := by decide +kernel
theorem dL_law_695 : decode cL_law 695 = .ok (.istore 6, 2) := by decide +kernel
theorem dL_law_697 : decode cL_law 697 = .ok (.aload_n 2, 1) := by decide +kernel
theorem dL_law_698 : decode cL_law 698 = .ok (.invokevirtual 73, 3) := by decide +kernel
theorem dL_law_701 : decode cL_law 701 = .ok (.iload 5, 2) := by decide +kernel
theorem dL_law_703 : decode cL_law 703 = .ok (.if_icmp .eq 5, 3) := by decide +kernel
theorem dL_law_706 : decode cL_law 706 = .ok (.iconst 0, 1) := by decide +kernel
theorem dL_law_707 : decode cL_law 707 = .ok (.ireturn, 1) := by decide +kernel
theorem dL_law_708 : decode cL_law 708 = .ok (.iload 5, 2) := by decide +kernel
theorem dL_law_710 : decode cL_law 710 = .ok (.ifCond .ne 15, 3) := by decide +kernel
theorem dL_law_713 : decode cL_law 713 = .ok (.aload_n 3, 1) := by decide +kernel
theorem dL_law_714 : decode cL_law 714 = .ok (.iconst 0, 1) := by decide +kernel
theorem dL_law_715 : decode cL_law 715 = .ok (.laload, 1) := by decide +kernel
theorem dL_law_716 : decode cL_law 716 = .ok (.iload 6, 2) := by decide +kernel
theorem dL_law_718 : decode cL_law 718 = .ok (.i2l, 1) := by decide +kernel
theorem dL_law_719 : decode cL_law 719 = .ok (.lcmp, 1) := by decide +kernel
theorem dL_law_720 : decode cL_law 720 = .ok (.ifCond .eq 5, 3) := by decide +kernel
theorem dL_law_723 : decode cL_law 723 = .ok (.iconst 0, 1) := by decide +kernel
theorem dL_law_724 : decode cL_law 724 = .ok (.ireturn, 1) := by decide +kernel
theorem dL_law_725 : decode cL_law 725 = .ok (.goto 399, 3) := by decide +kernel
theorem dL_law_728 : decode cL_law 728 = .ok (.aload_n 1, 1) := by decide +kernel
theorem dL_law_729 : decode cL_law 729 = .ok (.aload_n 0, 1) := by decide +kernel
theorem dL_law_730 : decode cL_law 730 = .ok (.iload 4, 2) := by decide +kernel
theorem dL_law_732 : decode cL_law 732 = .ok (.iconst 1, 1) := by decide +kernel
theorem dL_law_733 : decode cL_law 733 = .ok (.iadd, 1) := by decide +kernel
theorem dL_law_734 : decode cL_law 734 = .ok (.iaload, 1) := by decide +kernel
theorem dL_law_735 : decode cL_law 735 = .ok (.aload_n 0, 1) := by decide +kernel
theorem dL_law_736 : decode cL_law 736 = .ok (.iload 4, 2) := by decide +kernel
theorem dL_law_738 : decode cL_law 738 = .ok (.iconst 2, 1) := by decide +kernel
theorem dL_law_739 : decode cL_law 739 = .ok (.iadd, 1) := by decide +kernel
theorem dL_law_740 : decode cL_law 740 = .ok (.iaload, 1) := by decide +kernel
theorem dL_law_741 : decode cL_law 741 = .ok (.aload_n 3, 1) := by decide +kernel
theorem dL_law_742 : decode cL_law 742 = .ok (.invokestatic 113, 3) := by decide +kernel
theorem dL_law_745 : decode cL_law 745 = .ok (.istore 5, 2) := by decide +kernel
theorem dL_law_747 : decode cL_law 747 = .ok (.aload_n 2, 1) := by decide +kernel
theorem dL_law_748 : decode cL_law 748 = .ok (.aload_n 0, 1) := by decide +kernel
theorem dL_law_749 : decode cL_law 749 = .ok (.iload 4, 2) := by decide +kernel
theorem dL_law_751 : decode cL_law 751 = .ok (.iconst 1, 1) := by decide +kernel
theorem dL_law_752 : decode cL_law 752 = .ok (.iadd, 1) := by decide +kernel
theorem dL_law_753 : decode cL_law 753 = .ok (.iaload, 1) := by decide +kernel
theorem dL_law_754 : decode cL_law 754 = .ok (.aload_n 0, 1) := by decide +kernel
theorem dL_law_755 : decode cL_law 755 = .ok (.iload 4, 2) := by decide +kernel
theorem dL_law_757 : decode cL_law 757 = .ok (.iconst 2, 1) := by decide +kernel
theorem dL_law_758 : decode cL_law 758 = .ok (.iadd, 1) := by decide +kernel
theorem dL_law_759 : decode cL_law 759 = .ok (.iaload, 1) := by decide +kernel
theorem dL_law_760 : decode cL_law 760 = .ok (.invokevirtual 115, 3) := by decide +kernel
theorem dL_law_763 : decode cL_law 763 = .ok (.istore 6, 2) := by decide +kernel
theorem dL_law_765 : decode cL_law 765 = .ok (.aload_n 2, 1) := by decide +kernel
theorem dL_law_766 : decode cL_law 766 = .ok (.invokevirtual 73, 3) := by decide +kernel
theorem dL_law_769 : decode cL_law 769 = .ok (.iload 5, 2) := by decide +kernel
theorem dL_law_771 : decode cL_law 771 = .ok (.if_icmp .eq 5, 3) := by decide +kernel
theorem dL_law_774 : decode cL_law 774 = .ok (.iconst 0, 1) := by decide +kernel
theorem dL_law_775 : decode cL_law 775 = .ok (.ireturn, 1) := by decide +kernel
theorem dL_law_776 : decode cL_law 776 = .ok (.iload 5, 2) := by decide +kernel
theorem dL_law_778 : decode cL_law 778 = .ok (.ifCond .ne 15, 3) := by decide +kernel
theorem dL_law_781 : decode cL_law 781 = .ok (.aload_n 3, 1) := by decide +kernel
theorem dL_law_782 : decode cL_law 782 = .ok (.iconst 0, 1) := by decide +kernel
theorem dL_law_783 : decode cL_law 783 = .ok (.laload, 1) := by decide +kernel
theorem dL_law_784 : decode cL_law 784 = .ok (.iload 6, 2) := by decide +kernel
theorem dL_law_786 : decode cL_law 786 = .ok (.i2l, 1) := by decide +kernel
theorem dL_law_787 : decode cL_law 787 = .ok (.lcmp, 1) := by decide +kernel
theorem dL_law_788 : decode cL_law 788 = .ok (.ifCond .eq 5, 3) := by decide +kernel
theorem dL_law_791 : decode cL_law 791 = .ok (.iconst 0, 1) := by decide +kernel
theorem dL_law_792 : decode cL_law 792 = .ok (.ireturn, 1) := by decide +kernel
theorem dL_law_793 : decode cL_law 793 = .ok (.goto 331, 3) := by decide +kernel
theorem dL_law_796 : decode cL_law 796 = .ok (.aload_n 1, 1) := by decide +kernel
theorem dL_law_797 : decode cL_law 797 = .ok (.aload_n 0, 1) := by decide +kernel
theorem dL_law_798 : decode cL_law 798 = .ok (.iload 4, 2) := by decide +kernel
theorem dL_law_800 : decode cL_law 800 = .ok (.iconst 1, 1) := by decide +kernel
theorem dL_law_801 : decode cL_law 801 = .ok (.iadd, 1) := by decide +kernel
theorem dL_law_802 : decode cL_law 802 = .ok (.iaload, 1) := by decide +kernel
theorem dL_law_803 : decode cL_law 803 = .ok (.aload_n 0, 1) := by decide +kernel
theorem dL_law_804 : decode cL_law 804 = .ok (.iload 4, 2) := by decide +kernel
theorem dL_law_806 : decode cL_law 806 = .ok (.iconst 2, 1) := by decide +kernel
theorem dL_law_807 : decode cL_law 807 = .ok (.iadd, 1) := by decide +kernel
theorem dL_law_808 : decode cL_law 808 = .ok (.iaload, 1) := by decide +kernel
theorem dL_law_809 : decode cL_law 809 = .ok (.aload_n 3, 1) := by decide +kernel
theorem dL_law_810 : decode cL_law 810 = .ok (.invokestatic 116, 3) := by decide +kernel
theorem dL_law_813 : decode cL_law 813 = .ok (.istore 5, 2) := by decide +kernel
theorem dL_law_815 : decode cL_law 815 = .ok (.aload_n 2, 1) := by decide +kernel
theorem dL_law_816 : decode cL_law 816 = .ok (.aload_n 0, 1) := by decide +kernel
theorem dL_law_817 : decode cL_law 817 = .ok (.iload 4, 2) := by decide +kernel
theorem dL_law_819 : decode cL_law 819 = .ok (.iconst 1, 1) := by decide +kernel
theorem dL_law_820 : decode cL_law 820 = .ok (.iadd, 1) := by decide +kernel
theorem dL_law_821 : decode cL_law 821 = .ok (.iaload, 1) := by decide +kernel
theorem dL_law_822 : decode cL_law 822 = .ok (.aload_n 0, 1) := by decide +kernel
theorem dL_law_823 : decode cL_law 823 = .ok (.iload 4, 2) := by decide +kernel
theorem dL_law_825 : decode cL_law 825 = .ok (.iconst 2, 1) := by decide +kernel
theorem dL_law_826 : decode cL_law 826 = .ok (.iadd, 1) := by decide +kernel
theorem dL_law_827 : decode cL_law 827 = .ok (.iaload, 1) := by decide +kernel
theorem dL_law_828 : decode cL_law 828 = .ok (.invokevirtual 118, 3) := by decide +kernel
theorem dL_law_831 : decode cL_law 831 = .ok (.istore 6, 2) := by decide +kernel
theorem dL_law_833 : decode cL_law 833 = .ok (.aload_n 2, 1) := by decide +kernel
theorem dL_law_834 : decode cL_law 834 = .ok (.invokevirtual 73, 3) := by decide +kernel
theorem dL_law_837 : decode cL_law 837 = .ok (.iload 5, 2) := by decide +kernel
theorem dL_law_839 : decode cL_law 839 = .ok (.if_icmp .eq 5, 3) := by decide +kernel
theorem dL_law_842 : decode cL_law 842 = .ok (.iconst 0, 1) := by decide +kernel
theorem dL_law_843 : decode cL_law 843 = .ok (.ireturn, 1) := by decide +kernel
theorem dL_law_844 : decode cL_law 844 = .ok (.iload 5, 2) := by decide +kernel
theorem dL_law_846 : decode cL_law 846 = .ok (.ifCond .ne 15, 3) := by decide +kernel
theorem dL_law_849 : decode cL_law 849 = .ok (.aload_n 3, 1) := by decide +kernel
theorem dL_law_850 : decode cL_law 850 = .ok (.iconst 0, 1) := by decide +kernel
theorem dL_law_851 : decode cL_law 851 = .ok (.laload, 1) := by decide +kernel
theorem dL_law_852 : decode cL_law 852 = .ok (.iload 6, 2) := by decide +kernel
theorem dL_law_854 : decode cL_law 854 = .ok (.i2l, 1) := by decide +kernel
theorem dL_law_855 : decode cL_law 855 = .ok (.lcmp, 1) := by decide +kernel
theorem dL_law_856 : decode cL_law 856 = .ok (.ifCond .eq 5, 3) := by decide +kernel
theorem dL_law_859 : decode cL_law 859 = .ok (.iconst 0, 1) := by decide +kernel
theorem dL_law_860 : decode cL_law 860 = .ok (.ireturn, 1) := by decide +kernel
theorem dL_law_861 : decode cL_law 861 = .ok (.goto 263, 3) := by decide +kernel
theorem dL_law_864 : decode cL_law 864 = .ok (.aload_n 1, 1) := by decide +kernel
theorem dL_law_865 : decode cL_law 865 = .ok (.aload_n 0, 1) := by decide +kernel
theorem dL_law_866 : decode cL_law 866 = .ok (.iload 4, 2) := by decide +kernel
theorem dL_law_868 : decode cL_law 868 = .ok (.iconst 1, 1) := by decide +kernel
theorem dL_law_869 : decode cL_law 869 = .ok (.iadd, 1) := by decide +kernel
theorem dL_law_870 : decode cL_law 870 = .ok (.iaload, 1) := by decide +kernel
theorem dL_law_871 : decode cL_law 871 = .ok (.aload_n 3, 1) := by decide +kernel
theorem dL_law_872 : decode cL_law 872 = .ok (.invokestatic 119, 3) := by decide +kernel
theorem dL_law_875 : decode cL_law 875 = .ok (.istore 5, 2) := by decide +kernel
theorem dL_law_877 : decode cL_law 877 = .ok (.aload_n 2, 1) := by decide +kernel
theorem dL_law_878 : decode cL_law 878 = .ok (.aload_n 0, 1) := by decide +kernel
theorem dL_law_879 : decode cL_law 879 = .ok (.iload 4, 2) := by decide +kernel
theorem dL_law_881 : decode cL_law 881 = .ok (.iconst 1, 1) := by decide +kernel
theorem dL_law_882 : decode cL_law 882 = .ok (.iadd, 1) := by decide +kernel
theorem dL_law_883 : decode cL_law 883 = .ok (.iaload, 1) := by decide +kernel
theorem dL_law_884 : decode cL_law 884 = .ok (.invokevirtual 121, 3) := by decide +kernel
theorem dL_law_887 : decode cL_law 887 = .ok (.istore 6, 2) := by decide +kernel
theorem dL_law_889 : decode cL_law 889 = .ok (.aload_n 2, 1) := by decide +kernel
theorem dL_law_890 : decode cL_law 890 = .ok (.invokevirtual 73, 3) := by decide +kernel
theorem dL_law_893 : decode cL_law 893 = .ok (.iload 5, 2) := by decide +kernel
theorem dL_law_895 : decode cL_law 895 = .ok (.if_icmp .eq 5, 3) := by decide +kernel
theorem dL_law_898 : decode cL_law 898 = .ok (.iconst 0, 1) := by decide +kernel
theorem dL_law_899 : decode cL_law 899 = .ok (.ireturn, 1) := by decide +kernel
theorem dL_law_900 : decode cL_law 900 = .ok (.iload 5, 2) := by decide +kernel
theorem dL_law_902 : decode cL_law 902 = .ok (.ifCond .ne 15, 3) := by decide +kernel
theorem dL_law_905 : decode cL_law 905 = .ok (.aload_n 3, 1) := by decide +kernel
theorem dL_law_906 : decode cL_law 906 = .ok (.iconst 0, 1) := by decide +kernel
theorem dL_law_907 : decode cL_law 907 = .ok (.laload, 1) := by decide +kernel
theorem dL_law_908 : decode cL_law 908 = .ok (.iload 6, 2) := by decide +kernel
theorem dL_law_910 : decode cL_law 910 = .ok (.i2l, 1) := by decide +kernel
theorem dL_law_911 : decode cL_law 911 = .ok (.lcmp, 1) := by decide +kernel
theorem dL_law_912 : decode cL_law 912 = .ok (.ifCond .eq 5, 3) := by decide +kernel
theorem dL_law_915 : decode cL_law 915 = .ok (.iconst 0, 1) := by decide +kernel
theorem dL_law_916 : decode cL_law 916 = .ok (.ireturn, 1) := by decide +kernel
theorem dL_law_917 : decode cL_law 917 = .ok (.goto 207, 3) := by decide +kernel
theorem dL_law_920 : decode cL_law 920 = .ok (.aload_n 1, 1) := by decide +kernel
theorem dL_law_921 : decode cL_law 921 = .ok (.aload_n 0, 1) := by decide +kernel
theorem dL_law_922 : decode cL_law 922 = .ok (.iload 4, 2) := by decide +kernel
theorem dL_law_924 : decode cL_law 924 = .ok (.iconst 1, 1) := by decide +kernel
theorem dL_law_925 : decode cL_law 925 = .ok (.iadd, 1) := by decide +kernel
theorem dL_law_926 : decode cL_law 926 = .ok (.iaload, 1) := by decide +kernel
theorem dL_law_927 : decode cL_law 927 = .ok (.aload_n 3, 1) := by decide +kernel
theorem dL_law_928 : decode cL_law 928 = .ok (.invokestatic 122, 3) := by decide +kernel
theorem dL_law_931 : decode cL_law 931 = .ok (.istore 5, 2) := by decide +kernel
theorem dL_law_933 : decode cL_law 933 = .ok (.aload_n 2, 1) := by decide +kernel
theorem dL_law_934 : decode cL_law 934 = .ok (.aload_n 0, 1) := by decide +kernel
theorem dL_law_935 : decode cL_law 935 = .ok (.iload 4, 2) := by decide +kernel
theorem dL_law_937 : decode cL_law 937 = .ok (.iconst 1, 1) := by decide +kernel
theorem dL_law_938 : decode cL_law 938 = .ok (.iadd, 1) := by decide +kernel
theorem dL_law_939 : decode cL_law 939 = .ok (.iaload, 1) := by decide +kernel
theorem dL_law_940 : decode cL_law 940 = .ok (.invokevirtual 124, 3) := by decide +kernel
theorem dL_law_943 : decode cL_law 943 = .ok (.istore 6, 2) := by decide +kernel
theorem dL_law_945 : decode cL_law 945 = .ok (.aload_n 2, 1) := by decide +kernel
theorem dL_law_946 : decode cL_law 946 = .ok (.invokevirtual 73, 3) := by decide +kernel
theorem dL_law_949 : decode cL_law 949 = .ok (.iload 5, 2) := by decide +kernel
theorem dL_law_951 : decode cL_law 951 = .ok (.if_icmp .eq 5, 3) := by decide +kernel
theorem dL_law_954 : decode cL_law 954 = .ok (.iconst 0, 1) := by decide +kernel
theorem dL_law_955 : decode cL_law 955 = .ok (.ireturn, 1) := by decide +kernel
theorem dL_law_956 : decode cL_law 956 = .ok (.iload 5, 2) := by decide +kernel
theorem dL_law_958 : decode cL_law 958 = .ok (.ifCond .ne 15, 3) := by decide +kernel
theorem dL_law_961 : decode cL_law 961 = .ok (.aload_n 3, 1) := by decide +kernel
theorem dL_law_962 : decode cL_law 962 = .ok (.iconst 0, 1) := by decide +kernel
theorem dL_law_963 : decode cL_law 963 = .ok (.laload, 1) := by decide +kernel
theorem dL_law_964 : decode cL_law 964 = .ok (.iload 6, 2) := by decide +kernel
theorem dL_law_966 : decode cL_law 966 = .ok (.i2l, 1) := by decide +kernel
theorem dL_law_967 : decode cL_law 967 = .ok (.lcmp, 1) := by decide +kernel
theorem dL_law_968 : decode cL_law 968 = .ok (.ifCond .eq 5, 3) := by decide +kernel
theorem dL_law_971 : decode cL_law 971 = .ok (.iconst 0, 1) := by decide +kernel
theorem dL_law_972 : decode cL_law 972 = .ok (.ireturn, 1) := by decide +kernel
theorem dL_law_973 : decode cL_law 973 = .ok (.goto 151, 3) := by decide +kernel
theorem dL_law_976 : decode cL_law 976 = .ok (.aload_n 1, 1) := by decide +kernel
theorem dL_law_977 : decode cL_law 977 = .ok (.aload_n 0, 1) := by decide +kernel
theorem dL_law_978 : decode cL_law 978 = .ok (.iload 4, 2) := by decide +kernel
theorem dL_law_980 : decode cL_law 980 = .ok (.iconst 1, 1) := by decide +kernel
theorem dL_law_981 : decode cL_law 981 = .ok (.iadd, 1) := by decide +kernel
theorem dL_law_982 : decode cL_law 982 = .ok (.iaload, 1) := by decide +kernel
theorem dL_law_983 : decode cL_law 983 = .ok (.aload_n 0, 1) := by decide +kernel
theorem dL_law_984 : decode cL_law 984 = .ok (.iload 4, 2) := by decide +kernel
theorem dL_law_986 : decode cL_law 986 = .ok (.iconst 2, 1) := by decide +kernel
theorem dL_law_987 : decode cL_law 987 = .ok (.iadd, 1) := by decide +kernel
theorem dL_law_988 : decode cL_law 988 = .ok (.iaload, 1) := by decide +kernel
theorem dL_law_989 : decode cL_law 989 = .ok (.aload_n 0, 1) := by decide +kernel
theorem dL_law_990 : decode cL_law 990 = .ok (.iload 4, 2) := by decide +kernel
theorem dL_law_992 : decode cL_law 992 = .ok (.iconst 3, 1) := by decide +kernel
theorem dL_law_993 : decode cL_law 993 = .ok (.iadd, 1) := by decide +kernel
theorem dL_law_994 : decode cL_law 994 = .ok (.iaload, 1) := by decide +kernel
theorem dL_law_995 : decode cL_law 995 = .ok (.aload_n 3, 1) := by decide +kernel
theorem dL_law_996 : decode cL_law 996 = .ok (.invokestatic 125, 3) := by decide +kernel
theorem dL_law_999 : decode cL_law 999 = .ok (.istore 5, 2) := by decide +kernel
theorem dL_law_1001 : decode cL_law 1001 = .ok (.aload_n 2, 1) := by decide +kernel
theorem dL_law_1002 : decode cL_law 1002 = .ok (.aload_n 0, 1) := by decide +kernel
theorem dL_law_1003 : decode cL_law 1003 = .ok (.iload 4, 2) := by decide +kernel
theorem dL_law_1005 : decode cL_law 1005 = .ok (.iconst 1, 1) := by decide +kernel
theorem dL_law_1006 : decode cL_law 1006 = .ok (.iadd, 1) := by decide +kernel
theorem dL_law_1007 : decode cL_law 1007 = .ok (.iaload, 1) := by decide +kernel
theorem dL_law_1008 : decode cL_law 1008 = .ok (.aload_n 0, 1) := by decide +kernel
theorem dL_law_1009 : decode cL_law 1009 = .ok (.iload 4, 2) := by decide +kernel
theorem dL_law_1011 : decode cL_law 1011 = .ok (.iconst 2, 1) := by decide +kernel
theorem dL_law_1012 : decode cL_law 1012 = .ok (.iadd, 1) := by decide +kernel
theorem dL_law_1013 : decode cL_law 1013 = .ok (.iaload, 1) := by decide +kernel
theorem dL_law_1014 : decode cL_law 1014 = .ok (.aload_n 0, 1) := by decide +kernel
theorem dL_law_1015 : decode cL_law 1015 = .ok (.iload 4, 2) := by decide +kernel
theorem dL_law_1017 : decode cL_law 1017 = .ok (.iconst 3, 1) := by decide +kernel
theorem dL_law_1018 : decode cL_law 1018 = .ok (.iadd, 1) := by decide +kernel
theorem dL_law_1019 : decode cL_law 1019 = .ok (.iaload, 1) := by decide +kernel
theorem dL_law_1020 : decode cL_law 1020 = .ok (.invokevirtual 127, 3) := by decide +kernel
theorem dL_law_1023 : decode cL_law 1023 = .ok (.istore 6, 2) := by decide +kernel
theorem dL_law_1025 : decode cL_law 1025 = .ok (.aload_n 2, 1) := by decide +kernel
theorem dL_law_1026 : decode cL_law 1026 = .ok (.invokevirtual 73, 3) := by decide +kernel
theorem dL_law_1029 : decode cL_law 1029 = .ok (.iload 5, 2) := by decide +kernel
theorem dL_law_1031 : decode cL_law 1031 = .ok (.if_icmp .eq 5, 3) := by decide +kernel
theorem dL_law_1034 : decode cL_law 1034 = .ok (.iconst 0, 1) := by decide +kernel
theorem dL_law_1035 : decode cL_law 1035 = .ok (.ireturn, 1) := by decide +kernel
theorem dL_law_1036 : decode cL_law 1036 = .ok (.iload 5, 2) := by decide +kernel
theorem dL_law_1038 : decode cL_law 1038 = .ok (.ifCond .ne 15, 3) := by decide +kernel
theorem dL_law_1041 : decode cL_law 1041 = .ok (.aload_n 3, 1) := by decide +kernel
theorem dL_law_1042 : decode cL_law 1042 = .ok (.iconst 0, 1) := by decide +kernel
theorem dL_law_1043 : decode cL_law 1043 = .ok (.laload, 1) := by decide +kernel
theorem dL_law_1044 : decode cL_law 1044 = .ok (.iload 6, 2) := by decide +kernel
theorem dL_law_1046 : decode cL_law 1046 = .ok (.i2l, 1) := by decide +kernel
theorem dL_law_1047 : decode cL_law 1047 = .ok (.lcmp, 1) := by decide +kernel
theorem dL_law_1048 : decode cL_law 1048 = .ok (.ifCond .eq 5, 3) := by decide +kernel
theorem dL_law_1051 : decode cL_law 1051 = .ok (.iconst 0, 1) := by decide +kernel
theorem dL_law_1052 : decode cL_law 1052 = .ok (.ireturn, 1) := by decide +kernel
theorem dL_law_1053 : decode cL_law 1053 = .ok (.goto 71, 3) := by decide +kernel
theorem dL_law_1056 : decode cL_law 1056 = .ok (.aload_n 1, 1) := by decide +kernel
theorem dL_law_1057 : decode cL_law 1057 = .ok (.invokevirtual 128, 3) := by decide +kernel
theorem dL_law_1060 : decode cL_law 1060 = .ok (.aload_n 2, 1) := by decide +kernel
theorem dL_law_1061 : decode cL_law 1061 = .ok (.invokevirtual 131, 3) := by decide +kernel
theorem dL_law_1064 : decode cL_law 1064 = .ok (.if_icmp .eq 60, 3) := by decide +kernel
theorem dL_law_1067 : decode cL_law 1067 = .ok (.iconst 0, 1) := by decide +kernel
theorem dL_law_1068 : decode cL_law 1068 = .ok (.ireturn, 1) := by decide +kernel
theorem dL_law_1069 : decode cL_law 1069 = .ok (.aload_n 1, 1) := by decide +kernel
theorem dL_law_1070 : decode cL_law 1070 = .ok (.invokevirtual 132, 3) := by decide +kernel
theorem dL_law_1073 : decode cL_law 1073 = .ok (.dstore 5, 2) := by decide +kernel
theorem dL_law_1075 : decode cL_law 1075 = .ok (.aload_n 2, 1) := by decide +kernel
theorem dL_law_1076 : decode cL_law 1076 = .ok (.invokevirtual 136, 3) := by decide +kernel
theorem dL_law_1079 : decode cL_law 1079 = .ok (.dstore 7, 2) := by decide +kernel
theorem dL_law_1081 : decode cL_law 1081 = .ok (.dload 5, 2) := by decide +kernel
theorem dL_law_1083 : decode cL_law 1083 = .ok (.dload 7, 2) := by decide +kernel
theorem dL_law_1085 : decode cL_law 1085 = .ok (.dcmp .l, 1) := by decide +kernel
theorem dL_law_1086 : decode cL_law 1086 = .ok (.ifCond .eq 21, 3) := by decide +kernel
theorem dL_law_1089 : decode cL_law 1089 = .ok (.dload 5, 2) := by decide +kernel
theorem dL_law_1091 : decode cL_law 1091 = .ok (.dload 5, 2) := by decide +kernel
theorem dL_law_1093 : decode cL_law 1093 = .ok (.dcmp .l, 1) := by decide +kernel
theorem dL_law_1094 : decode cL_law 1094 = .ok (.ifCond .eq 11, 3) := by decide +kernel
theorem dL_law_1097 : decode cL_law 1097 = .ok (.dload 7, 2) := by decide +kernel
theorem dL_law_1099 : decode cL_law 1099 = .ok (.dload 7, 2) := by decide +kernel
theorem dL_law_1101 : decode cL_law 1101 = .ok (.dcmp .l, 1) := by decide +kernel
theorem dL_law_1102 : decode cL_law 1102 = .ok (.ifCond .ne 5, 3) := by decide +kernel
theorem dL_law_1105 : decode cL_law 1105 = .ok (.iconst 0, 1) := by decide +kernel
theorem dL_law_1106 : decode cL_law 1106 = .ok (.ireturn, 1) := by decide +kernel
theorem dL_law_1107 : decode cL_law 1107 = .ok (.goto 17, 3) := by decide +kernel
theorem dL_law_1110 : decode cL_law 1110 = .ok (.aload_n 1, 1) := by decide +kernel
theorem dL_law_1111 : decode cL_law 1111 = .ok (.invokevirtual 137, 3) := by decide +kernel
theorem dL_law_1114 : decode cL_law 1114 = .ok (.aload_n 2, 1) := by decide +kernel
theorem dL_law_1115 : decode cL_law 1115 = .ok (.invokevirtual 141, 3) := by decide +kernel
theorem dL_law_1118 : decode cL_law 1118 = .ok (.lcmp, 1) := by decide +kernel
theorem dL_law_1119 : decode cL_law 1119 = .ok (.ifCond .eq 5, 3) := by decide +kernel
theorem dL_law_1122 : decode cL_law 1122 = .ok (.iconst 0, 1) := by decide +kernel
theorem dL_law_1123 : decode cL_law 1123 = .ok (.ireturn, 1) := by decide +kernel
theorem dL_law_1124 : decode cL_law 1124 = .ok (.iinc 4 5, 3) := by decide +kernel
theorem dL_law_1127 : decode cL_law 1127 = .ok (.goto (-1104), 3) := by decide +kernel
theorem dL_law_1130 : decode cL_law 1130 = .ok (.iconst 1, 1) := by decide +kernel
theorem dL_law_1131 : decode cL_law 1131 = .ok (.ireturn, 1) := by decide +kernel
def w_L_law (zz : Nat → Nat) (a0 : Nat) (h : AH) (Q : Int → AH → Prop) : Prop := ∀ h0 : AH, h0 = nOb h 6 → w_X6_init zz (hn h) h0 (fun  (h4 : AH) => ∀ x1_7 : Nat, x1_7 = (hn h) → ∀ h8 : AH, h8 = nOb h4 7 → w_X7_init zz (hn h4) h8 (fun  (h12 : AH) => ∀ x2_15 : Nat, x2_15 = (hn h4) → ∀ h17 : AH, h17 = nAL h12 1 → ∀ x3_19 : Nat, x3_19 = (hn h12) → ∃ I_23 : Nat → Int → AH → Prop, (∃ n, n ≤ 520 ∧ I_23 n (0 : Int) h17) ∧ ∀ (n_23 : Nat) (x4_23 : Int) (h_23 : AH), I_23 n_23 x4_23 h_23 → (∃ k26 : Nat, hkd h_23 a0 = (1, k26) ∧ inR ((k26 : Int) - (5 : Int)) ∧ ((((k26 : Int) - (5 : Int)) < x4_23) → Q (1 : Int) h_23) ∧ ((¬ (((k26 : Int) - (5 : Int)) < x4_23)) → okI h_23 a0 x4_23 ∧ jn (fun  (h_1124 : AH) => inR (x4_23 + 5) ∧ ∀ x4_1124 : Int, x4_1124 = (x4_23 + 5) → ∃ m, m < n_23 ∧ I_23 m x4_1124 h_1124) (fun k_1124 : AH → Prop => (((haI h_23 a0 x4_23) % 32) = 0 → okA h_23 x1_7 6 ∧ w_X6_begin zz x1_7 h_23 (fun (r133 : Int) (h133 : AH) => okA h133 x2_15 7 ∧ w_X7_begin zz x2_15 h133 (fun (r137 : Int) (h137 : AH) => ((r133 = r137) → k_1124  h137) ∧ ((¬ (r133 = r137)) → Q (0 : Int) h137)))) ∧ (((haI h_23 a0 x4_23) % 32) = 1 → inR (x4_23 + (1 : Int)) ∧ okI h_23 a0 (x4_23 + (1 : Int)) ∧ inR (x4_23 + (2 : Int)) ∧ okI h_23 a0 (x4_23 + (2 : Int)) ∧ w_L_set zz x1_7 (haI h_23 a0 (x4_23 + (1 : Int))) (haI h_23 a0 (x4_23 + (2 : Int))) x3_19 h_23 (fun (r159 : Int) (h159 : AH) => inR (x4_23 + (1 : Int)) ∧ okI h159 a0 (x4_23 + (1 : Int)) ∧ inR (x4_23 + (2 : Int)) ∧ okI h159 a0 (x4_23 + (2 : Int)) ∧ okA h159 x2_15 7 ∧ w_X7_set zz x2_15 (haI h159 a0 (x4_23 + (1 : Int))) (haI h159 a0 (x4_23 + (2 : Int))) h159 (fun (r177 : Int) (h177 : AH) => okA h177 x2_15 7 ∧ w_X7_thrown zz x2_15 h177 (fun (r183 : Int) (h183 : AH) => ((r183 = r159) → jn (fun  (h_210 : AH) => k_1124  h_210) (fun k_210 : AH → Prop => ((¬ r159 = 0) → k_210  h183) ∧ ((r159 = 0) → okJ h183 x3_19 (0 : Int) ∧ ((((lg_cmp (haL h183 x3_19 (0 : Int)) (Int64.ofInt r177)).toInt) = 0) → k_210  h183) ∧ ((¬ (((lg_cmp (haL h183 x3_19 (0 : Int)) (Int64.ofInt r177)).toInt) = 0)) → Q (0 : Int) h183)))) ∧ ((¬ (r183 = r159)) → Q (0 : Int) h183))))) ∧ (((haI h_23 a0 x4_23) % 32) = 2 → inR (x4_23 + (1 : Int)) ∧ okI h_23 a0 (x4_23 + (1 : Int)) ∧ w_L_load zz x1_7 (haI h_23 a0 (x4_23 + (1 : Int))) x3_19 h_23 (fun (r221 : Int) (h221 : AH) => inR (x4_23 + (1 : Int)) ∧ okI h221 a0 (x4_23 + (1 : Int)) ∧ okA h221 x2_15 7 ∧ w_X7_load zz x2_15 (haI h221 a0 (x4_23 + (1 : Int))) h221 (fun (r233 : Int) (h233 : AH) => okA h233 x2_15 7 ∧ w_X7_thrown zz x2_15 h233 (fun (r239 : Int) (h239 : AH) => ((r239 = r221) → jn (fun  (h_266 : AH) => k_1124  h_266) (fun k_266 : AH → Prop => ((¬ r221 = 0) → k_266  h239) ∧ ((r221 = 0) → okJ h239 x3_19 (0 : Int) ∧ ((((lg_cmp (haL h239 x3_19 (0 : Int)) (Int64.ofInt r233)).toInt) = 0) → k_266  h239) ∧ ((¬ (((lg_cmp (haL h239 x3_19 (0 : Int)) (Int64.ofInt r233)).toInt) = 0)) → Q (0 : Int) h239)))) ∧ ((¬ (r239 = r221)) → Q (0 : Int) h239))))) ∧ (((haI h_23 a0 x4_23) % 32) = 3 → inR (x4_23 + (1 : Int)) ∧ okI h_23 a0 (x4_23 + (1 : Int)) ∧ inR (x4_23 + (2 : Int)) ∧ okI h_23 a0 (x4_23 + (2 : Int)) ∧ inR (x4_23 + (3 : Int)) ∧ okI h_23 a0 (x4_23 + (3 : Int)) ∧ inR (x4_23 + (4 : Int)) ∧ okI h_23 a0 (x4_23 + (4 : Int)) ∧ w_L_put zz x1_7 (haI h_23 a0 (x4_23 + (1 : Int))) (haI h_23 a0 (x4_23 + (2 : Int))) (haI h_23 a0 (x4_23 + (3 : Int))) (haI h_23 a0 (x4_23 + (4 : Int))) x3_19 h_23 (fun (r295 : Int) (h295 : AH) => inR (x4_23 + (1 : Int)) ∧ okI h295 a0 (x4_23 + (1 : Int)) ∧ inR (x4_23 + (2 : Int)) ∧ okI h295 a0 (x4_23 + (2 : Int)) ∧ inR (x4_23 + (3 : Int)) ∧ okI h295 a0 (x4_23 + (3 : Int)) ∧ inR (x4_23 + (4 : Int)) ∧ okI h295 a0 (x4_23 + (4 : Int)) ∧ okA h295 x2_15 7 ∧ w_X7_put zz x2_15 (haI h295 a0 (x4_23 + (1 : Int))) (haI h295 a0 (x4_23 + (2 : Int))) (haI h295 a0 (x4_23 + (3 : Int))) (haI h295 a0 (x4_23 + (4 : Int))) h295 (fun (r325 : Int) (h325 : AH) => okA h325 x2_15 7 ∧ w_X7_thrown zz x2_15 h325 (fun (r331 : Int) (h331 : AH) => ((r331 = r295) → jn (fun  (h_358 : AH) => k_1124  h_358) (fun k_358 : AH → Prop => ((¬ r295 = 0) → k_358  h331) ∧ ((r295 = 0) → okJ h331 x3_19 (0 : Int) ∧ ((((lg_cmp (haL h331 x3_19 (0 : Int)) (Int64.ofInt r325)).toInt) = 0) → k_358  h331) ∧ ((¬ (((lg_cmp (haL h331 x3_19 (0 : Int)) (Int64.ofInt r325)).toInt) = 0)) → Q (0 : Int) h331)))) ∧ ((¬ (r331 = r295)) → Q (0 : Int) h331))))) ∧ (((haI h_23 a0 x4_23) % 32) = 4 → okA h_23 x1_7 6 ∧ w_X6_swap zz x1_7 h_23 (fun (r362 : Int) (h362 : AH) => okA h362 x2_15 7 ∧ w_X7_swap zz x2_15 h362 (fun (r366 : Int) (h366 : AH) => ((r362 = r366) → k_1124  h366) ∧ ((¬ (r362 = r366)) → Q (0 : Int) h366)))) ∧ (((haI h_23 a0 x4_23) % 32) = 5 → w_L_undo zz x1_7 x3_19 h_23 (fun (r376 : Int) (h376 : AH) => okA h376 x2_15 7 ∧ w_X7_undo zz x2_15 h376 (fun (r382 : Int) (h382 : AH) => okA h382 x2_15 7 ∧ w_X7_thrown zz x2_15 h382 (fun (r388 : Int) (h388 : AH) => ((r388 = r376) → jn (fun  (h_415 : AH) => k_1124  h_415) (fun k_415 : AH → Prop => ((¬ r376 = 0) → k_415  h388) ∧ ((r376 = 0) → okJ h388 x3_19 (0 : Int) ∧ ((((lg_cmp (haL h388 x3_19 (0 : Int)) (Int64.ofInt r382)).toInt) = 0) → k_415  h388) ∧ ((¬ (((lg_cmp (haL h388 x3_19 (0 : Int)) (Int64.ofInt r382)).toInt) = 0)) → Q (0 : Int) h388)))) ∧ ((¬ (r388 = r376)) → Q (0 : Int) h388))))) ∧ (((haI h_23 a0 x4_23) % 32) = 6 → inR (x4_23 + (1 : Int)) ∧ okI h_23 a0 (x4_23 + (1 : Int)) ∧ w_L_append zz x1_7 (haI h_23 a0 (x4_23 + (1 : Int))) x3_19 h_23 (fun (r426 : Int) (h426 : AH) => inR (x4_23 + (1 : Int)) ∧ okI h426 a0 (x4_23 + (1 : Int)) ∧ okA h426 x2_15 7 ∧ w_X7_append zz x2_15 (haI h426 a0 (x4_23 + (1 : Int))) h426 (fun (r438 : Int) (h438 : AH) => okA h438 x2_15 7 ∧ w_X7_thrown zz x2_15 h438 (fun (r444 : Int) (h444 : AH) => ((r444 = r426) → jn (fun  (h_471 : AH) => k_1124  h_471) (fun k_471 : AH → Prop => ((¬ r426 = 0) → k_471  h444) ∧ ((r426 = 0) → okJ h444 x3_19 (0 : Int) ∧ ((((lg_cmp (haL h444 x3_19 (0 : Int)) (Int64.ofInt r438)).toInt) = 0) → k_471  h444) ∧ ((¬ (((lg_cmp (haL h444 x3_19 (0 : Int)) (Int64.ofInt r438)).toInt) = 0)) → Q (0 : Int) h444)))) ∧ ((¬ (r444 = r426)) → Q (0 : Int) h444))))) ∧ (((haI h_23 a0 x4_23) % 32) = 7 → okA h_23 x1_7 6 ∧ w_X6_clearBuffer zz x1_7 h_23 (fun (r475 : Int) (h475 : AH) => okA h475 x2_15 7 ∧ w_X7_clearBuffer zz x2_15 h475 (fun (r479 : Int) (h479 : AH) => ((r475 = r479) → k_1124  h479) ∧ ((¬ (r475 = r479)) → Q (0 : Int) h479)))) ∧ (((haI h_23 a0 x4_23) % 32) = 8 → okA h_23 x1_7 6 ∧ w_X6_firstError zz x1_7 h_23 (fun (r488 : Int) (h488 : AH) => okA h488 x2_15 7 ∧ w_X7_firstError zz x2_15 h488 (fun (r492 : Int) (h492 : AH) => ((r488 = r492) → k_1124  h492) ∧ ((¬ (r488 = r492)) → Q (0 : Int) h492)))) ∧ (((haI h_23 a0 x4_23) % 32) = 9 → inR (x4_23 + (1 : Int)) ∧ okI h_23 a0 (x4_23 + (1 : Int)) ∧ inR (x4_23 + (2 : Int)) ∧ okI h_23 a0 (x4_23 + (2 : Int)) ∧ inR (x4_23 + (3 : Int)) ∧ okI h_23 a0 (x4_23 + (3 : Int)) ∧ w_L_letter zz x1_7 (haI h_23 a0 (x4_23 + (1 : Int))) (haI h_23 a0 (x4_23 + (2 : Int))) (haI h_23 a0 (x4_23 + (3 : Int))) x3_19 h_23 (fun (r520 : Int) (h520 : AH) => inR (x4_23 + (1 : Int)) ∧ okI h520 a0 (x4_23 + (1 : Int)) ∧ inR (x4_23 + (2 : Int)) ∧ okI h520 a0 (x4_23 + (2 : Int)) ∧ inR (x4_23 + (3 : Int)) ∧ okI h520 a0 (x4_23 + (3 : Int)) ∧ okA h520 x2_15 7 ∧ w_X7_letter zz x2_15 (haI h520 a0 (x4_23 + (1 : Int))) (haI h520 a0 (x4_23 + (2 : Int))) (haI h520 a0 (x4_23 + (3 : Int))) h520 (fun (r544 : Int) (h544 : AH) => okA h544 x2_15 7 ∧ w_X7_thrown zz x2_15 h544 (fun (r550 : Int) (h550 : AH) => ((r550 = r520) → jn (fun  (h_577 : AH) => k_1124  h_577) (fun k_577 : AH → Prop => ((¬ r520 = 0) → k_577  h550) ∧ ((r520 = 0) → okJ h550 x3_19 (0 : Int) ∧ ((((lg_cmp (haL h550 x3_19 (0 : Int)) (Int64.ofInt r544)).toInt) = 0) → k_577  h550) ∧ ((¬ (((lg_cmp (haL h550 x3_19 (0 : Int)) (Int64.ofInt r544)).toInt) = 0)) → Q (0 : Int) h550)))) ∧ ((¬ (r550 = r520)) → Q (0 : Int) h550))))) ∧ (((haI h_23 a0 x4_23) % 32) = 10 → inR (x4_23 + (1 : Int)) ∧ okI h_23 a0 (x4_23 + (1 : Int)) ∧ inR (x4_23 + (2 : Int)) ∧ okI h_23 a0 (x4_23 + (2 : Int)) ∧ w_L_way zz x1_7 (haI h_23 a0 (x4_23 + (1 : Int))) (haI h_23 a0 (x4_23 + (2 : Int))) x3_19 h_23 (fun (r594 : Int) (h594 : AH) => inR (x4_23 + (1 : Int)) ∧ okI h594 a0 (x4_23 + (1 : Int)) ∧ inR (x4_23 + (2 : Int)) ∧ okI h594 a0 (x4_23 + (2 : Int)) ∧ okA h594 x2_15 7 ∧ w_X7_way zz x2_15 (haI h594 a0 (x4_23 + (1 : Int))) (haI h594 a0 (x4_23 + (2 : Int))) h594 (fun (r612 : Int) (h612 : AH) => okA h612 x2_15 7 ∧ w_X7_thrown zz x2_15 h612 (fun (r618 : Int) (h618 : AH) => ((r618 = r594) → jn (fun  (h_645 : AH) => k_1124  h_645) (fun k_645 : AH → Prop => ((¬ r594 = 0) → k_645  h618) ∧ ((r594 = 0) → okJ h618 x3_19 (0 : Int) ∧ ((((lg_cmp (haL h618 x3_19 (0 : Int)) (Int64.ofInt r612)).toInt) = 0) → k_645  h618) ∧ ((¬ (((lg_cmp (haL h618 x3_19 (0 : Int)) (Int64.ofInt r612)).toInt) = 0)) → Q (0 : Int) h618)))) ∧ ((¬ (r618 = r594)) → Q (0 : Int) h618))))) ∧ (((haI h_23 a0 x4_23) % 32) = 11 → inR (x4_23 + (1 : Int)) ∧ okI h_23 a0 (x4_23 + (1 : Int)) ∧ inR (x4_23 + (2 : Int)) ∧ okI h_23 a0 (x4_23 + (2 : Int)) ∧ inR (x4_23 + (3 : Int)) ∧ okI h_23 a0 (x4_23 + (3 : Int)) ∧ w_L_at zz x1_7 (haI h_23 a0 (x4_23 + (1 : Int))) (haI h_23 a0 (x4_23 + (2 : Int))) (haI h_23 a0 (x4_23 + (3 : Int))) x3_19 h_23 (fun (r668 : Int) (h668 : AH) => inR (x4_23 + (1 : Int)) ∧ okI h668 a0 (x4_23 + (1 : Int)) ∧ inR (x4_23 + (2 : Int)) ∧ okI h668 a0 (x4_23 + (2 : Int)) ∧ inR (x4_23 + (3 : Int)) ∧ okI h668 a0 (x4_23 + (3 : Int)) ∧ okA h668 x2_15 7 ∧ w_X7_at zz x2_15 (haI h668 a0 (x4_23 + (1 : Int))) (haI h668 a0 (x4_23 + (2 : Int))) (haI h668 a0 (x4_23 + (3 : Int))) h668 (fun (r692 : Int) (h692 : AH) => okA h692 x2_15 7 ∧ w_X7_thrown zz x2_15 h692 (fun (r698 : Int) (h698 : AH) => ((r698 = r668) → jn (fun  (h_725 : AH) => k_1124  h_725) (fun k_725 : AH → Prop => ((¬ r668 = 0) → k_725  h698) ∧ ((r668 = 0) → okJ h698 x3_19 (0 : Int) ∧ ((((lg_cmp (haL h698 x3_19 (0 : Int)) (Int64.ofInt r692)).toInt) = 0) → k_725  h698) ∧ ((¬ (((lg_cmp (haL h698 x3_19 (0 : Int)) (Int64.ofInt r692)).toInt) = 0)) → Q (0 : Int) h698)))) ∧ ((¬ (r698 = r668)) → Q (0 : Int) h698))))) ∧ (((haI h_23 a0 x4_23) % 32) = 12 → inR (x4_23 + (1 : Int)) ∧ okI h_23 a0 (x4_23 + (1 : Int)) ∧ inR (x4_23 + (2 : Int)) ∧ okI h_23 a0 (x4_23 + (2 : Int)) ∧ w_L_place zz x1_7 (haI h_23 a0 (x4_23 + (1 : Int))) (haI h_23 a0 (x4_23 + (2 : Int))) x3_19 h_23 (fun (r742 : Int) (h742 : AH) => inR (x4_23 + (1 : Int)) ∧ okI h742 a0 (x4_23 + (1 : Int)) ∧ inR (x4_23 + (2 : Int)) ∧ okI h742 a0 (x4_23 + (2 : Int)) ∧ okA h742 x2_15 7 ∧ w_X7_place zz x2_15 (haI h742 a0 (x4_23 + (1 : Int))) (haI h742 a0 (x4_23 + (2 : Int))) h742 (fun (r760 : Int) (h760 : AH) => okA h760 x2_15 7 ∧ w_X7_thrown zz x2_15 h760 (fun (r766 : Int) (h766 : AH) => ((r766 = r742) → jn (fun  (h_793 : AH) => k_1124  h_793) (fun k_793 : AH → Prop => ((¬ r742 = 0) → k_793  h766) ∧ ((r742 = 0) → okJ h766 x3_19 (0 : Int) ∧ ((((lg_cmp (haL h766 x3_19 (0 : Int)) (Int64.ofInt r760)).toInt) = 0) → k_793  h766) ∧ ((¬ (((lg_cmp (haL h766 x3_19 (0 : Int)) (Int64.ofInt r760)).toInt) = 0)) → Q (0 : Int) h766)))) ∧ ((¬ (r766 = r742)) → Q (0 : Int) h766))))) ∧ (((haI h_23 a0 x4_23) % 32) = 13 → inR (x4_23 + (1 : Int)) ∧ okI h_23 a0 (x4_23 + (1 : Int)) ∧ inR (x4_23 + (2 : Int)) ∧ okI h_23 a0 (x4_23 + (2 : Int)) ∧ w_L_frame zz x1_7 (haI h_23 a0 (x4_23 + (1 : Int))) (haI h_23 a0 (x4_23 + (2 : Int))) x3_19 h_23 (fun (r810 : Int) (h810 : AH) => inR (x4_23 + (1 : Int)) ∧ okI h810 a0 (x4_23 + (1 : Int)) ∧ inR (x4_23 + (2 : Int)) ∧ okI h810 a0 (x4_23 + (2 : Int)) ∧ okA h810 x2_15 7 ∧ w_X7_frame zz x2_15 (haI h810 a0 (x4_23 + (1 : Int))) (haI h810 a0 (x4_23 + (2 : Int))) h810 (fun (r828 : Int) (h828 : AH) => okA h828 x2_15 7 ∧ w_X7_thrown zz x2_15 h828 (fun (r834 : Int) (h834 : AH) => ((r834 = r810) → jn (fun  (h_861 : AH) => k_1124  h_861) (fun k_861 : AH → Prop => ((¬ r810 = 0) → k_861  h834) ∧ ((r810 = 0) → okJ h834 x3_19 (0 : Int) ∧ ((((lg_cmp (haL h834 x3_19 (0 : Int)) (Int64.ofInt r828)).toInt) = 0) → k_861  h834) ∧ ((¬ (((lg_cmp (haL h834 x3_19 (0 : Int)) (Int64.ofInt r828)).toInt) = 0)) → Q (0 : Int) h834)))) ∧ ((¬ (r834 = r810)) → Q (0 : Int) h834))))) ∧ (((haI h_23 a0 x4_23) % 32) = 14 → inR (x4_23 + (1 : Int)) ∧ okI h_23 a0 (x4_23 + (1 : Int)) ∧ w_L_count zz x1_7 (haI h_23 a0 (x4_23 + (1 : Int))) x3_19 h_23 (fun (r872 : Int) (h872 : AH) => inR (x4_23 + (1 : Int)) ∧ okI h872 a0 (x4_23 + (1 : Int)) ∧ okA h872 x2_15 7 ∧ w_X7_count zz x2_15 (haI h872 a0 (x4_23 + (1 : Int))) h872 (fun (r884 : Int) (h884 : AH) => okA h884 x2_15 7 ∧ w_X7_thrown zz x2_15 h884 (fun (r890 : Int) (h890 : AH) => ((r890 = r872) → jn (fun  (h_917 : AH) => k_1124  h_917) (fun k_917 : AH → Prop => ((¬ r872 = 0) → k_917  h890) ∧ ((r872 = 0) → okJ h890 x3_19 (0 : Int) ∧ ((((lg_cmp (haL h890 x3_19 (0 : Int)) (Int64.ofInt r884)).toInt) = 0) → k_917  h890) ∧ ((¬ (((lg_cmp (haL h890 x3_19 (0 : Int)) (Int64.ofInt r884)).toInt) = 0)) → Q (0 : Int) h890)))) ∧ ((¬ (r890 = r872)) → Q (0 : Int) h890))))) ∧ (((haI h_23 a0 x4_23) % 32) = 15 → inR (x4_23 + (1 : Int)) ∧ okI h_23 a0 (x4_23 + (1 : Int)) ∧ w_L_setting zz x1_7 (haI h_23 a0 (x4_23 + (1 : Int))) x3_19 h_23 (fun (r928 : Int) (h928 : AH) => inR (x4_23 + (1 : Int)) ∧ okI h928 a0 (x4_23 + (1 : Int)) ∧ okA h928 x2_15 7 ∧ w_X7_setting zz x2_15 (haI h928 a0 (x4_23 + (1 : Int))) h928 (fun (r940 : Int) (h940 : AH) => okA h940 x2_15 7 ∧ w_X7_thrown zz x2_15 h940 (fun (r946 : Int) (h946 : AH) => ((r946 = r928) → jn (fun  (h_973 : AH) => k_1124  h_973) (fun k_973 : AH → Prop => ((¬ r928 = 0) → k_973  h946) ∧ ((r928 = 0) → okJ h946 x3_19 (0 : Int) ∧ ((((lg_cmp (haL h946 x3_19 (0 : Int)) (Int64.ofInt r940)).toInt) = 0) → k_973  h946) ∧ ((¬ (((lg_cmp (haL h946 x3_19 (0 : Int)) (Int64.ofInt r940)).toInt) = 0)) → Q (0 : Int) h946)))) ∧ ((¬ (r946 = r928)) → Q (0 : Int) h946))))) ∧ (((haI h_23 a0 x4_23) % 32) = 16 → inR (x4_23 + (1 : Int)) ∧ okI h_23 a0 (x4_23 + (1 : Int)) ∧ inR (x4_23 + (2 : Int)) ∧ okI h_23 a0 (x4_23 + (2 : Int)) ∧ inR (x4_23 + (3 : Int)) ∧ okI h_23 a0 (x4_23 + (3 : Int)) ∧ w_L_ifSet zz x1_7 (haI h_23 a0 (x4_23 + (1 : Int))) (haI h_23 a0 (x4_23 + (2 : Int))) (haI h_23 a0 (x4_23 + (3 : Int))) x3_19 h_23 (fun (r996 : Int) (h996 : AH) => inR (x4_23 + (1 : Int)) ∧ okI h996 a0 (x4_23 + (1 : Int)) ∧ inR (x4_23 + (2 : Int)) ∧ okI h996 a0 (x4_23 + (2 : Int)) ∧ inR (x4_23 + (3 : Int)) ∧ okI h996 a0 (x4_23 + (3 : Int)) ∧ okA h996 x2_15 7 ∧ w_X7_ifSet zz x2_15 (haI h996 a0 (x4_23 + (1 : Int))) (haI h996 a0 (x4_23 + (2 : Int))) (haI h996 a0 (x4_23 + (3 : Int))) h996 (fun (r1020 : Int) (h1020 : AH) => okA h1020 x2_15 7 ∧ w_X7_thrown zz x2_15 h1020 (fun (r1026 : Int) (h1026 : AH) => ((r1026 = r996) → jn (fun  (h_1053 : AH) => k_1124  h_1053) (fun k_1053 : AH → Prop => ((¬ r996 = 0) → k_1053  h1026) ∧ ((r996 = 0) → okJ h1026 x3_19 (0 : Int) ∧ ((((lg_cmp (haL h1026 x3_19 (0 : Int)) (Int64.ofInt r1020)).toInt) = 0) → k_1053  h1026) ∧ ((¬ (((lg_cmp (haL h1026 x3_19 (0 : Int)) (Int64.ofInt r1020)).toInt) = 0)) → Q (0 : Int) h1026)))) ∧ ((¬ (r1026 = r996)) → Q (0 : Int) h1026))))) ∧ (((haI h_23 a0 x4_23) % 32) = 17 → okA h_23 x1_7 6 ∧ w_X6_best zz x1_7 h_23 (fun (r1057 : Int) (h1057 : AH) => okA h1057 x2_15 7 ∧ w_X7_best zz x2_15 h1057 (fun (r1061 : Int) (h1061 : AH) => ((r1057 = r1061) → k_1124  h1061) ∧ ((¬ (r1057 = r1061)) → Q (0 : Int) h1061)))) ∧ (((haI h_23 a0 x4_23) % 32) = 18 → okA h_23 x1_7 6 ∧ w_X6_likeness zz x1_7 h_23 (fun (r1070 : UInt64) (h1070 : AH) => okA h1070 x2_15 7 ∧ w_X7_likeness zz x2_15 h1070 (fun (r1076 : UInt64) (h1076 : AH) => jn (fun  (h_1107 : AH) => k_1124  h_1107) (fun k_1107 : AH → Prop => ((((Op.cmpValue (FP.dcmp r1070 r1076) CmpOp.l).toInt) = 0) → k_1107  h1076) ∧ ((¬ (((Op.cmpValue (FP.dcmp r1070 r1076) CmpOp.l).toInt) = 0)) → jn (fun  (h_1105 : AH) => Q (0 : Int) h_1105) (fun k_1105 : AH → Prop => ((((Op.cmpValue (FP.dcmp r1070 r1070) CmpOp.l).toInt) = 0) → k_1105  h1076) ∧ ((¬ (((Op.cmpValue (FP.dcmp r1070 r1070) CmpOp.l).toInt) = 0)) → ((¬ ((Op.cmpValue (FP.dcmp r1076 r1076) CmpOp.l).toInt) = 0) → k_1107  h1076) ∧ ((((Op.cmpValue (FP.dcmp r1076 r1076) CmpOp.l).toInt) = 0) → k_1105  h1076)))))))) ∧ (((haI h_23 a0 x4_23) % 32) = 19 → okA h_23 x1_7 6 ∧ w_X6_digest zz x1_7 h_23 (fun (r1111 : Int64) (h1111 : AH) => okA h1111 x2_15 7 ∧ w_X7_digest zz x2_15 h1111 (fun (r1115 : Int64) (h1115 : AH) => ((((lg_cmp r1111 r1115).toInt) = 0) → k_1124  h1115) ∧ ((¬ (((lg_cmp r1111 r1115).toInt) = 0)) → Q (0 : Int) h1115)))) ∧ ((((haI h_23 a0 x4_23) % 32) < 0 ∨ 19 < ((haI h_23 a0 x4_23) % 32)) → k_1124  h_23))))))
set_option maxRecDepth 100000 in
set_option maxHeartbeats 4000000 in
theorem met_L_law (G : GG) (l : Launch) (hst : l.stackTraces = false) {p : Program} {e : Env} {s0 s : State} {m : MethodId} {below : List Frame} {meth : Method} {c : Code} {b0 : Nat} {d0 : Drawn} (hs0 : s = s0.setDrawn d0) (hd0 : s0.drawn.sameBut d0 lw_cs) (hH0 : s.heap.size ≤ G.2.1.size) (C : CF G p s m #[Value.ref b0] meth c cL_law RL) (hml : c.maxLocals = 9) (hr : meth.sig.returnType = ret) (a0 : Nat) (h : AH) (Q : Int → AH → Prop) (hQ : ∀ v h, Q v h → v = 1) (hw : w_L_law G.2.2 a0 h Q) : AW G p l e room_1 s m #[Value.ref b0] below meth c 0 0 (lw_Z below #[Value.ref b0] s0) 0 (eOf [(0, vR a0)]) [] h := by
  unfold w_L_law at hw
  refine aw_new (pc := 0) C ci6 tw20 tw21 tw1 (by decide) dL_law_0 (by show _ ≤ (601024 : Nat); omega) (by show _ ≤ (7293034 : Nat); omega) (aw_nmH (fun h0 e9 => ?_))
  have hw := hw h0 e9
  refine aw_dup (pc := 3) C dL_law_3 rfl ?_
  refine aw_callI (pc := 4) (as := []) C (fun As hA => met_X6_init G l As (hn h) _ _ hA hw) tw22 tw23 tw1 tw24 ⟨rfl, rfl⟩ rfl ⟨by decide, by decide, pd_X6_init⟩ ⟨Nat.le_of_ble_eq_true rfl, Nat.le_of_ble_eq_true rfl⟩ ⟨(by show _ ≤ (601024 : Nat); omega), (by show _ ≤ (7293034 : Nat); omega)⟩ (Nat.le_of_ble_eq_true rfl) dL_law_4 rfl (fun v9 h4 hq9 => ?_)
  obtain ⟨rfl, hw⟩ := hq9
  refine aw_nmR (fun x1_7 e9 => ?_)
  have hw := hw x1_7 e9
  refine aw_astore_n (pc := 7) C dL_law_7 rfl (by rw [hml]; decide) ?_
  refine aw_new (pc := 8) C ci7 tw782 tw783 tw10 (by decide) dL_law_8 (by show _ ≤ (601024 : Nat); omega) (by show _ ≤ (7293034 : Nat); omega) (aw_nmH (fun h8 e9 => ?_))
  have hw := hw h8 e9
  refine aw_dup (pc := 11) C dL_law_11 rfl ?_
  refine aw_callI (pc := 12) (as := []) C (fun As hA => met_X7_init G l As (hn h4) _ _ hA hw) tw784 tw785 tw10 tw786 ⟨rfl, rfl⟩ rfl ⟨by decide, by decide, pd_X7_init⟩ ⟨Nat.le_of_ble_eq_true rfl, Nat.le_of_ble_eq_true rfl⟩ ⟨(by show _ ≤ (601024 : Nat); omega), (by show _ ≤ (7293034 : Nat); omega)⟩ (Nat.le_of_ble_eq_true rfl) dL_law_12 rfl (fun v9 h12 hq9 => ?_)
  obtain ⟨rfl, hw⟩ := hq9
  refine aw_nmR (fun x2_15 e9 => ?_)
  have hw := hw x2_15 e9
  refine aw_astore_n (pc := 15) C dL_law_15 rfl (by rw [hml]; decide) ?_
  refine aw_iconst (pc := 16) C dL_law_16 (i := (1 : Int)) (by decide) ?_
  refine aw_newL (pc := 17) (n := 1) C tw1134 dL_law_17 (Nat.le_of_ble_eq_true rfl) (by show _ ≤ (601024 : Nat); omega) (by show _ ≤ (7293034 : Nat); omega) (aw_nmH (fun h17 e9 => ?_))
  have hw := hw h17 e9
  refine aw_nmR (fun x3_19 e9 => ?_)
  have hw := hw x3_19 e9
  refine aw_astore_n (pc := 19) C dL_law_19 rfl (by rw [hml]; decide) ?_
  refine aw_iconst (pc := 20) C dL_law_20 (i := (0 : Int)) (by decide) ?_
  refine aw_istore (pc := 21) C dL_law_21 (by rw [hml]; decide) ?_
  obtain ⟨I_23, ⟨n9, hn9, hi9⟩, hst9⟩ := hw
  have L_23 : ∀ (n_23 : Nat) (x4_23 : Int) (h_23 : AH) (bc9 bs9 : Nat), I_23 n_23 x4_23 h_23 → bc9 + 1 * n_23 + 1 ≤ 601024 → bs9 + 6 * n_23 + 6 ≤ 7293034 → AW G p l e room_1 s m #[Value.ref b0] below meth c bc9 bs9 (lw_Z below #[Value.ref b0] s0) 23 (eOf [(0, vR a0), (1, vR x1_7), (2, vR x2_15), (3, vR x3_19), (4, vI x4_23)]) [] h_23 := by
    intro n_23
    induction n_23 using Nat.strongRecOn with
    | _ n_23 ih_23 =>
    intro x4_23 h_23 bc9 bs9 hi9 hb9 hs9
    have hw := hst9 n_23 x4_23 h_23 hi9
    refine aw_iload (pc := 23) C dL_law_23 rfl ?_
    refine aw_aload_n (pc := 25) C dL_law_25 rfl rfl ?_
    obtain ⟨k26, hp9, hw⟩ := hw
    refine aw_alen (pc := 26) C dL_law_26 hp9 ?_
    refine aw_iconst (pc := 27) C dL_law_27 (i := (5 : Int)) (by decide) ?_
    obtain ⟨hp9, hw⟩ := hw
    refine aw_isub (pc := 28) C dL_law_28 hp9 ?_
    refine aw_icmp_gt (pc := 29) (tgt := 1130) C dL_law_29 (by decide) (fun hc9 => ?_) (fun hc9 => ?_)
    · have hw := hw.1 hc9
      refine aw_iconst (pc := 1130) C dL_law_1130 (i := (1 : Int)) (by decide) ?_
      exact aw_lawret (pc := 1131) hs0 hd0 hH0 C hr dL_law_1131 (by omega) (by omega) (hQ _ _ hw)
    · have hw := hw.2 hc9
      refine aw_aload_n (pc := 32) C dL_law_32 rfl rfl ?_
      refine aw_iload (pc := 33) C dL_law_33 rfl ?_
      obtain ⟨⟨k9, hp9⟩, hw⟩ := hw
      refine aw_iald (pc := 35) C dL_law_35 hp9 ?_
      refine aw_bipush (pc := 36) C dL_law_36 (i := (31 : Int)) (by decide) ?_
      refine aw_iand31 (pc := 38) C dL_law_38  ?_
      obtain ⟨k_1124, hk_1124, hw⟩ := jn_out hw
      have J_1124 : ∀  (h_1124 : AH) (bc8 bs8 : Nat), k_1124  h_1124 → bc8 ≤ bc9 + 1 → bs8 ≤ bs9 + 6 → AW G p l e room_1 s m #[Value.ref b0] below meth c bc8 bs8 (lw_Z below #[Value.ref b0] s0) 1124 (eOf [(0, vR a0), (1, vR x1_7), (2, vR x2_15), (3, vR x3_19), (4, vI x4_23)]) [] h_1124 := by
        intro  h_1124 bc8 bs8 hw hb8 hs8
        rw [hk_1124] at hw
        obtain ⟨hp9, hw⟩ := hw
        refine aw_iincN (pc := 1124) C dL_law_1124 (k := 5) (by decide) rfl (by rw [hml]; decide) hp9 (fun x4_1124 e9 => ?_)
        have hw := hw x4_1124 e9
        refine aw_goto (pc := 1127) (tgt := 23) C dL_law_1127 (by decide) ?_
        obtain ⟨m9, hm9, hw⟩ := hw
        refine aw_sub [(0, vR a0), (1, vR x1_7), (2, vR x2_15), (3, vR x3_19), (4, vI x4_1124)] ⟨rfl, rfl, rfl, rfl, rfl, trivial⟩ ?_
        exact ih_23 m9 hm9 _ _ _ _ hw (by omega) (by omega)
      have hcs9 : ((haI h_23 a0 x4_23) % 32) = 0 ∨ ((haI h_23 a0 x4_23) % 32) = 1 ∨ ((haI h_23 a0 x4_23) % 32) = 2 ∨ ((haI h_23 a0 x4_23) % 32) = 3 ∨ ((haI h_23 a0 x4_23) % 32) = 4 ∨ ((haI h_23 a0 x4_23) % 32) = 5 ∨ ((haI h_23 a0 x4_23) % 32) = 6 ∨ ((haI h_23 a0 x4_23) % 32) = 7 ∨ ((haI h_23 a0 x4_23) % 32) = 8 ∨ ((haI h_23 a0 x4_23) % 32) = 9 ∨ ((haI h_23 a0 x4_23) % 32) = 10 ∨ ((haI h_23 a0 x4_23) % 32) = 11 ∨ ((haI h_23 a0 x4_23) % 32) = 12 ∨ ((haI h_23 a0 x4_23) % 32) = 13 ∨ ((haI h_23 a0 x4_23) % 32) = 14 ∨ ((haI h_23 a0 x4_23) % 32) = 15 ∨ ((haI h_23 a0 x4_23) % 32) = 16 ∨ ((haI h_23 a0 x4_23) % 32) = 17 ∨ ((haI h_23 a0 x4_23) % 32) = 18 ∨ ((haI h_23 a0 x4_23) % 32) = 19 ∨ (((haI h_23 a0 x4_23) % 32) < 0 ∨ 19 < ((haI h_23 a0 x4_23) % 32)) := by omega
      rcases hcs9 with hc9 | hc9 | hc9 | hc9 | hc9 | hc9 | hc9 | hc9 | hc9 | hc9 | hc9 | hc9 | hc9 | hc9 | hc9 | hc9 | hc9 | hc9 | hc9 | hc9 | hc9
      · have hw := hw.1 hc9
        refine aw_tableIn (pc := 39) (off := 93) (tgt := 132) C dL_law_39 (by omega) (by omega) (by rw [hc9]; rfl) (by decide) ?_
        refine aw_aload_n (pc := 132) C dL_law_132 rfl rfl ?_
        obtain ⟨hp9, hw⟩ := hw
        refine aw_callV (pc := 133) (as := []) C ci6 (fun As hA => met_X6_begin G l As x1_7 _ _ hA hw) tw248 tw249 tw250 tw1 tw251 ⟨rfl, rfl⟩ ⟨rfl, by decide, by decide, pd_X6_begin⟩ ⟨Nat.le_of_ble_eq_true rfl, Nat.le_of_ble_eq_true rfl⟩ ⟨(by show _ ≤ (601024 : Nat); omega), (by show _ ≤ (7293034 : Nat); omega)⟩ (Nat.le_of_ble_eq_true rfl) dL_law_133 rfl hp9 (fun v9 h133 hq9 => ?_)
        obtain ⟨r133, rfl, hw⟩ := hq9
        refine aw_aload_n (pc := 136) C dL_law_136 rfl rfl ?_
        obtain ⟨hp9, hw⟩ := hw
        refine aw_callV (pc := 137) (as := []) C ci7 (fun As hA => met_X7_begin G l As x2_15 _ _ hA hw) tw864 tw865 tw866 tw10 tw867 ⟨rfl, rfl⟩ ⟨rfl, by decide, by decide, pd_X7_begin⟩ ⟨Nat.le_of_ble_eq_true rfl, Nat.le_of_ble_eq_true rfl⟩ ⟨(by show _ ≤ (601024 : Nat); omega), (by show _ ≤ (7293034 : Nat); omega)⟩ (Nat.le_of_ble_eq_true rfl) dL_law_137 rfl hp9 (fun v9 h137 hq9 => ?_)
        obtain ⟨r137, rfl, hw⟩ := hq9
        refine aw_icmp_eq (pc := 140) (tgt := 1124) C dL_law_140 (by decide) (fun hc9 => ?_) (fun hc9 => ?_)
        · have hw := hw.1 hc9
          refine aw_sub [(0, vR a0), (1, vR x1_7), (2, vR x2_15), (3, vR x3_19), (4, vI x4_23)] ⟨rfl, rfl, rfl, rfl, rfl, trivial⟩ ?_
          exact J_1124  _ _ _ hw (by omega) (by omega)
        · have hw := hw.2 hc9
          refine aw_iconst (pc := 143) C dL_law_143 (i := (0 : Int)) (by decide) ?_
          exact aw_lawret (pc := 144) hs0 hd0 hH0 C hr dL_law_144 (by omega) (by omega) (hQ _ _ hw)
      · have hw := hw.2.1 hc9
        refine aw_tableIn (pc := 39) (off := 106) (tgt := 145) C dL_law_39 (by omega) (by omega) (by rw [hc9]; rfl) (by decide) ?_
        refine aw_aload_n (pc := 145) C dL_law_145 rfl rfl ?_
        refine aw_aload_n (pc := 146) C dL_law_146 rfl rfl ?_
        refine aw_iload (pc := 147) C dL_law_147 rfl ?_
        refine aw_iconst (pc := 149) C dL_law_149 (i := (1 : Int)) (by decide) ?_
        obtain ⟨hp9, hw⟩ := hw
        refine aw_iadd (pc := 150) C dL_law_150 hp9 ?_
        obtain ⟨⟨k9, hp9⟩, hw⟩ := hw
        refine aw_iald (pc := 151) C dL_law_151 hp9 ?_
        refine aw_aload_n (pc := 152) C dL_law_152 rfl rfl ?_
        refine aw_iload (pc := 153) C dL_law_153 rfl ?_
        refine aw_iconst (pc := 155) C dL_law_155 (i := (2 : Int)) (by decide) ?_
        obtain ⟨hp9, hw⟩ := hw
        refine aw_iadd (pc := 156) C dL_law_156 hp9 ?_
        obtain ⟨⟨k9, hp9⟩, hw⟩ := hw
        refine aw_iald (pc := 157) C dL_law_157 hp9 ?_
        refine aw_aload_n (pc := 158) C dL_law_158 rfl rfl ?_
        refine aw_callSW (pc := 159) (as := [vR x1_7, vI (haI h_23 a0 (x4_23 + (1 : Int))), vI (haI h_23 a0 (x4_23 + (2 : Int))), vR x3_19]) C (fun As hA => met_L_set G l hst As x1_7 (haI h_23 a0 (x4_23 + (1 : Int))) (haI h_23 a0 (x4_23 + (2 : Int))) x3_19 _ _ hA hw) tw535 tw536 tw0 tw537 ⟨rfl, rfl⟩ ⟨by decide, by decide, pd_L_set⟩ ⟨Nat.le_of_ble_eq_true rfl, Nat.le_of_ble_eq_true rfl⟩ ⟨(by show _ ≤ (601024 : Nat); omega), (by show _ ≤ (7293034 : Nat); omega)⟩ (Nat.le_of_ble_eq_true rfl) dL_law_159 rfl (fun v9 h159 hq9 => ?_)
        obtain ⟨r159, rfl, hw⟩ := hq9
        refine aw_istore (pc := 162) C dL_law_162 (by rw [hml]; decide) ?_
        refine aw_aload_n (pc := 164) C dL_law_164 rfl rfl ?_
        refine aw_aload_n (pc := 165) C dL_law_165 rfl rfl ?_
        refine aw_iload (pc := 166) C dL_law_166 rfl ?_
        refine aw_iconst (pc := 168) C dL_law_168 (i := (1 : Int)) (by decide) ?_
        obtain ⟨hp9, hw⟩ := hw
        refine aw_iadd (pc := 169) C dL_law_169 hp9 ?_
        obtain ⟨⟨k9, hp9⟩, hw⟩ := hw
        refine aw_iald (pc := 170) C dL_law_170 hp9 ?_
        refine aw_aload_n (pc := 171) C dL_law_171 rfl rfl ?_
        refine aw_iload (pc := 172) C dL_law_172 rfl ?_
        refine aw_iconst (pc := 174) C dL_law_174 (i := (2 : Int)) (by decide) ?_
        obtain ⟨hp9, hw⟩ := hw
        refine aw_iadd (pc := 175) C dL_law_175 hp9 ?_
        obtain ⟨⟨k9, hp9⟩, hw⟩ := hw
        refine aw_iald (pc := 176) C dL_law_176 hp9 ?_
        obtain ⟨hp9, hw⟩ := hw
        refine aw_callV (pc := 177) (as := [vI (haI h159 a0 (x4_23 + (1 : Int))), vI (haI h159 a0 (x4_23 + (2 : Int)))]) C ci7 (fun As hA => met_X7_set G l As x2_15 (haI h159 a0 (x4_23 + (1 : Int))) (haI h159 a0 (x4_23 + (2 : Int))) _ _ hA hw) tw876 tw877 tw878 tw10 tw879 ⟨rfl, rfl⟩ ⟨rfl, by decide, by decide, pd_X7_set⟩ ⟨Nat.le_of_ble_eq_true rfl, Nat.le_of_ble_eq_true rfl⟩ ⟨(by show _ ≤ (601024 : Nat); omega), (by show _ ≤ (7293034 : Nat); omega)⟩ (Nat.le_of_ble_eq_true rfl) dL_law_177 rfl hp9 (fun v9 h177 hq9 => ?_)
        obtain ⟨r177, rfl, hw⟩ := hq9
        refine aw_istore (pc := 180) C dL_law_180 (by rw [hml]; decide) ?_
        refine aw_aload_n (pc := 182) C dL_law_182 rfl rfl ?_
        obtain ⟨hp9, hw⟩ := hw
        refine aw_callV (pc := 183) (as := []) C ci7 (fun As hA => met_X7_thrown G l As x2_15 _ _ hA hw) tw856 tw857 tw858 tw10 tw859 ⟨rfl, rfl⟩ ⟨rfl, by decide, by decide, pd_X7_thrown⟩ ⟨Nat.le_of_ble_eq_true rfl, Nat.le_of_ble_eq_true rfl⟩ ⟨(by show _ ≤ (601024 : Nat); omega), (by show _ ≤ (7293034 : Nat); omega)⟩ (Nat.le_of_ble_eq_true rfl) dL_law_183 rfl hp9 (fun v9 h183 hq9 => ?_)
        obtain ⟨r183, rfl, hw⟩ := hq9
        refine aw_iload (pc := 186) C dL_law_186 rfl ?_
        refine aw_icmp_eq (pc := 188) (tgt := 193) C dL_law_188 (by decide) (fun hc9 => ?_) (fun hc9 => ?_)
        · have hw := hw.1 hc9
          refine aw_iload (pc := 193) C dL_law_193 rfl ?_
          obtain ⟨k_210, hk_210, hw⟩ := jn_out hw
          have J_210 : ∀  (h_210 : AH) (bc8 bs8 : Nat), k_210  h_210 → bc8 ≤ bc9 + 1 → bs8 ≤ bs9 + 6 → AW G p l e room_1 s m #[Value.ref b0] below meth c bc8 bs8 (lw_Z below #[Value.ref b0] s0) 210 (eOf [(0, vR a0), (1, vR x1_7), (2, vR x2_15), (3, vR x3_19), (4, vI x4_23)]) [] h_210 := by
            intro  h_210 bc8 bs8 hw hb8 hs8
            rw [hk_210] at hw
            refine aw_goto (pc := 210) (tgt := 1124) C dL_law_210 (by decide) ?_
            refine aw_sub [(0, vR a0), (1, vR x1_7), (2, vR x2_15), (3, vR x3_19), (4, vI x4_23)] ⟨rfl, rfl, rfl, rfl, rfl, trivial⟩ ?_
            exact J_1124  _ _ _ hw (by omega) (by omega)
          refine aw_if_ne (pc := 195) (tgt := 210) C dL_law_195 (by decide) (fun hc9 => ?_) (fun hc9 => ?_)
          · have hw := hw.1 hc9
            refine aw_sub [(0, vR a0), (1, vR x1_7), (2, vR x2_15), (3, vR x3_19), (4, vI x4_23)] ⟨rfl, rfl, rfl, rfl, rfl, trivial⟩ ?_
            exact J_210  _ _ _ hw (by omega) (by omega)
          · have hw := hw.2 hc9
            refine aw_aload_n (pc := 198) C dL_law_198 rfl rfl ?_
            refine aw_iconst (pc := 199) C dL_law_199 (i := (0 : Int)) (by decide) ?_
            obtain ⟨⟨k9, hp9⟩, hw⟩ := hw
            refine aw_lald (pc := 200) C dL_law_200 hp9 ?_
            refine aw_iload (pc := 201) C dL_law_201 rfl ?_
            refine aw_i2l (pc := 203) C dL_law_203  ?_
            refine aw_lcmp (pc := 204) C dL_law_204  ?_
            refine aw_if_eq (pc := 205) (tgt := 210) C dL_law_205 (by decide) (fun hc9 => ?_) (fun hc9 => ?_)
            · have hw := hw.1 hc9
              refine aw_sub [(0, vR a0), (1, vR x1_7), (2, vR x2_15), (3, vR x3_19), (4, vI x4_23)] ⟨rfl, rfl, rfl, rfl, rfl, trivial⟩ ?_
              exact J_210  _ _ _ hw (by omega) (by omega)
            · have hw := hw.2 hc9
              refine aw_iconst (pc := 208) C dL_law_208 (i := (0 : Int)) (by decide) ?_
              exact aw_lawret (pc := 209) hs0 hd0 hH0 C hr dL_law_209 (by omega) (by omega) (hQ _ _ hw)
        · have hw := hw.2 hc9
          refine aw_iconst (pc := 191) C dL_law_191 (i := (0 : Int)) (by decide) ?_
          exact aw_lawret (pc := 192) hs0 hd0 hH0 C hr dL_law_192 (by omega) (by omega) (hQ _ _ hw)
      · have hw := hw.2.2.1 hc9
        refine aw_tableIn (pc := 39) (off := 174) (tgt := 213) C dL_law_39 (by omega) (by omega) (by rw [hc9]; rfl) (by decide) ?_
        refine aw_aload_n (pc := 213) C dL_law_213 rfl rfl ?_
        refine aw_aload_n (pc := 214) C dL_law_214 rfl rfl ?_
        refine aw_iload (pc := 215) C dL_law_215 rfl ?_
        refine aw_iconst (pc := 217) C dL_law_217 (i := (1 : Int)) (by decide) ?_
        obtain ⟨hp9, hw⟩ := hw
        refine aw_iadd (pc := 218) C dL_law_218 hp9 ?_
        obtain ⟨⟨k9, hp9⟩, hw⟩ := hw
        refine aw_iald (pc := 219) C dL_law_219 hp9 ?_
        refine aw_aload_n (pc := 220) C dL_law_220 rfl rfl ?_
        refine aw_callSW (pc := 221) (as := [vR x1_7, vI (haI h_23 a0 (x4_23 + (1 : Int))), vR x3_19]) C (fun As hA => met_L_load G l hst As x1_7 (haI h_23 a0 (x4_23 + (1 : Int))) x3_19 _ _ hA hw) tw638 tw639 tw0 tw640 ⟨rfl, rfl⟩ ⟨by decide, by decide, pd_L_load⟩ ⟨Nat.le_of_ble_eq_true rfl, Nat.le_of_ble_eq_true rfl⟩ ⟨(by show _ ≤ (601024 : Nat); omega), (by show _ ≤ (7293034 : Nat); omega)⟩ (Nat.le_of_ble_eq_true rfl) dL_law_221 rfl (fun v9 h221 hq9 => ?_)
        obtain ⟨r221, rfl, hw⟩ := hq9
        refine aw_istore (pc := 224) C dL_law_224 (by rw [hml]; decide) ?_
        refine aw_aload_n (pc := 226) C dL_law_226 rfl rfl ?_
        refine aw_aload_n (pc := 227) C dL_law_227 rfl rfl ?_
        refine aw_iload (pc := 228) C dL_law_228 rfl ?_
        refine aw_iconst (pc := 230) C dL_law_230 (i := (1 : Int)) (by decide) ?_
        obtain ⟨hp9, hw⟩ := hw
        refine aw_iadd (pc := 231) C dL_law_231 hp9 ?_
        obtain ⟨⟨k9, hp9⟩, hw⟩ := hw
        refine aw_iald (pc := 232) C dL_law_232 hp9 ?_
        obtain ⟨hp9, hw⟩ := hw
        refine aw_callV (pc := 233) (as := [vI (haI h221 a0 (x4_23 + (1 : Int)))]) C ci7 (fun As hA => met_X7_load G l As x2_15 (haI h221 a0 (x4_23 + (1 : Int))) _ _ hA hw) tw1005 tw1006 tw1007 tw10 tw1008 ⟨rfl, rfl⟩ ⟨rfl, by decide, by decide, pd_X7_load⟩ ⟨Nat.le_of_ble_eq_true rfl, Nat.le_of_ble_eq_true rfl⟩ ⟨(by show _ ≤ (601024 : Nat); omega), (by show _ ≤ (7293034 : Nat); omega)⟩ (Nat.le_of_ble_eq_true rfl) dL_law_233 rfl hp9 (fun v9 h233 hq9 => ?_)
        obtain ⟨r233, rfl, hw⟩ := hq9
        refine aw_istore (pc := 236) C dL_law_236 (by rw [hml]; decide) ?_
        refine aw_aload_n (pc := 238) C dL_law_238 rfl rfl ?_
        obtain ⟨hp9, hw⟩ := hw
        refine aw_callV (pc := 239) (as := []) C ci7 (fun As hA => met_X7_thrown G l As x2_15 _ _ hA hw) tw856 tw857 tw858 tw10 tw859 ⟨rfl, rfl⟩ ⟨rfl, by decide, by decide, pd_X7_thrown⟩ ⟨Nat.le_of_ble_eq_true rfl, Nat.le_of_ble_eq_true rfl⟩ ⟨(by show _ ≤ (601024 : Nat); omega), (by show _ ≤ (7293034 : Nat); omega)⟩ (Nat.le_of_ble_eq_true rfl) dL_law_239 rfl hp9 (fun v9 h239 hq9 => ?_)
        obtain ⟨r239, rfl, hw⟩ := hq9
        refine aw_iload (pc := 242) C dL_law_242 rfl ?_
        refine aw_icmp_eq (pc := 244) (tgt := 249) C dL_law_244 (by decide) (fun hc9 => ?_) (fun hc9 => ?_)
        · have hw := hw.1 hc9
          refine aw_iload (pc := 249) C dL_law_249 rfl ?_
          obtain ⟨k_266, hk_266, hw⟩ := jn_out hw
          have J_266 : ∀  (h_266 : AH) (bc8 bs8 : Nat), k_266  h_266 → bc8 ≤ bc9 + 1 → bs8 ≤ bs9 + 6 → AW G p l e room_1 s m #[Value.ref b0] below meth c bc8 bs8 (lw_Z below #[Value.ref b0] s0) 266 (eOf [(0, vR a0), (1, vR x1_7), (2, vR x2_15), (3, vR x3_19), (4, vI x4_23)]) [] h_266 := by
            intro  h_266 bc8 bs8 hw hb8 hs8
            rw [hk_266] at hw
            refine aw_goto (pc := 266) (tgt := 1124) C dL_law_266 (by decide) ?_
            refine aw_sub [(0, vR a0), (1, vR x1_7), (2, vR x2_15), (3, vR x3_19), (4, vI x4_23)] ⟨rfl, rfl, rfl, rfl, rfl, trivial⟩ ?_
            exact J_1124  _ _ _ hw (by omega) (by omega)
          refine aw_if_ne (pc := 251) (tgt := 266) C dL_law_251 (by decide) (fun hc9 => ?_) (fun hc9 => ?_)
          · have hw := hw.1 hc9
            refine aw_sub [(0, vR a0), (1, vR x1_7), (2, vR x2_15), (3, vR x3_19), (4, vI x4_23)] ⟨rfl, rfl, rfl, rfl, rfl, trivial⟩ ?_
            exact J_266  _ _ _ hw (by omega) (by omega)
          · have hw := hw.2 hc9
            refine aw_aload_n (pc := 254) C dL_law_254 rfl rfl ?_
            refine aw_iconst (pc := 255) C dL_law_255 (i := (0 : Int)) (by decide) ?_
            obtain ⟨⟨k9, hp9⟩, hw⟩ := hw
            refine aw_lald (pc := 256) C dL_law_256 hp9 ?_
            refine aw_iload (pc := 257) C dL_law_257 rfl ?_
            refine aw_i2l (pc := 259) C dL_law_259  ?_
            refine aw_lcmp (pc := 260) C dL_law_260  ?_
            refine aw_if_eq (pc := 261) (tgt := 266) C dL_law_261 (by decide) (fun hc9 => ?_) (fun hc9 => ?_)
            · have hw := hw.1 hc9
              refine aw_sub [(0, vR a0), (1, vR x1_7), (2, vR x2_15), (3, vR x3_19), (4, vI x4_23)] ⟨rfl, rfl, rfl, rfl, rfl, trivial⟩ ?_
              exact J_266  _ _ _ hw (by omega) (by omega)
            · have hw := hw.2 hc9
              refine aw_iconst (pc := 264) C dL_law_264 (i := (0 : Int)) (by decide) ?_
              exact aw_lawret (pc := 265) hs0 hd0 hH0 C hr dL_law_265 (by omega) (by omega) (hQ _ _ hw)
        · have hw := hw.2 hc9
          refine aw_iconst (pc := 247) C dL_law_247 (i := (0 : Int)) (by decide) ?_
          exact aw_lawret (pc := 248) hs0 hd0 hH0 C hr dL_law_248 (by omega) (by omega) (hQ _ _ hw)
      · have hw := hw.2.2.2.1 hc9
        refine aw_tableIn (pc := 39) (off := 230) (tgt := 269) C dL_law_39 (by omega) (by omega) (by rw [hc9]; rfl) (by decide) ?_
        refine aw_aload_n (pc := 269) C dL_law_269 rfl rfl ?_
        refine aw_aload_n (pc := 270) C dL_law_270 rfl rfl ?_
        refine aw_iload (pc := 271) C dL_law_271 rfl ?_
        refine aw_iconst (pc := 273) C dL_law_273 (i := (1 : Int)) (by decide) ?_
        obtain ⟨hp9, hw⟩ := hw
        refine aw_iadd (pc := 274) C dL_law_274 hp9 ?_
        obtain ⟨⟨k9, hp9⟩, hw⟩ := hw
        refine aw_iald (pc := 275) C dL_law_275 hp9 ?_
        refine aw_aload_n (pc := 276) C dL_law_276 rfl rfl ?_
        refine aw_iload (pc := 277) C dL_law_277 rfl ?_
        refine aw_iconst (pc := 279) C dL_law_279 (i := (2 : Int)) (by decide) ?_
        obtain ⟨hp9, hw⟩ := hw
        refine aw_iadd (pc := 280) C dL_law_280 hp9 ?_
        obtain ⟨⟨k9, hp9⟩, hw⟩ := hw
        refine aw_iald (pc := 281) C dL_law_281 hp9 ?_
        refine aw_aload_n (pc := 282) C dL_law_282 rfl rfl ?_
        refine aw_iload (pc := 283) C dL_law_283 rfl ?_
        refine aw_iconst (pc := 285) C dL_law_285 (i := (3 : Int)) (by decide) ?_
        obtain ⟨hp9, hw⟩ := hw
        refine aw_iadd (pc := 286) C dL_law_286 hp9 ?_
        obtain ⟨⟨k9, hp9⟩, hw⟩ := hw
        refine aw_iald (pc := 287) C dL_law_287 hp9 ?_
        refine aw_aload_n (pc := 288) C dL_law_288 rfl rfl ?_
        refine aw_iload (pc := 289) C dL_law_289 rfl ?_
        refine aw_iconst (pc := 291) C dL_law_291 (i := (4 : Int)) (by decide) ?_
        obtain ⟨hp9, hw⟩ := hw
        refine aw_iadd (pc := 292) C dL_law_292 hp9 ?_
        obtain ⟨⟨k9, hp9⟩, hw⟩ := hw
        refine aw_iald (pc := 293) C dL_law_293 hp9 ?_
        refine aw_aload_n (pc := 294) C dL_law_294 rfl rfl ?_
        refine aw_callSW (pc := 295) (as := [vR x1_7, vI (haI h_23 a0 (x4_23 + (1 : Int))), vI (haI h_23 a0 (x4_23 + (2 : Int))), vI (haI h_23 a0 (x4_23 + (3 : Int))), vI (haI h_23 a0 (x4_23 + (4 : Int))), vR x3_19]) C (fun As hA => met_L_put G l hst As x1_7 (haI h_23 a0 (x4_23 + (1 : Int))) (haI h_23 a0 (x4_23 + (2 : Int))) (haI h_23 a0 (x4_23 + (3 : Int))) (haI h_23 a0 (x4_23 + (4 : Int))) x3_19 _ _ hA hw) tw658 tw659 tw0 tw660 ⟨rfl, rfl⟩ ⟨by decide, by decide, pd_L_put⟩ ⟨Nat.le_of_ble_eq_true rfl, Nat.le_of_ble_eq_true rfl⟩ ⟨(by show _ ≤ (601024 : Nat); omega), (by show _ ≤ (7293034 : Nat); omega)⟩ (Nat.le_of_ble_eq_true rfl) dL_law_295 rfl (fun v9 h295 hq9 => ?_)
        obtain ⟨r295, rfl, hw⟩ := hq9
        refine aw_istore (pc := 298) C dL_law_298 (by rw [hml]; decide) ?_
        refine aw_aload_n (pc := 300) C dL_law_300 rfl rfl ?_
        refine aw_aload_n (pc := 301) C dL_law_301 rfl rfl ?_
        refine aw_iload (pc := 302) C dL_law_302 rfl ?_
        refine aw_iconst (pc := 304) C dL_law_304 (i := (1 : Int)) (by decide) ?_
        obtain ⟨hp9, hw⟩ := hw
        refine aw_iadd (pc := 305) C dL_law_305 hp9 ?_
        obtain ⟨⟨k9, hp9⟩, hw⟩ := hw
        refine aw_iald (pc := 306) C dL_law_306 hp9 ?_
        refine aw_aload_n (pc := 307) C dL_law_307 rfl rfl ?_
        refine aw_iload (pc := 308) C dL_law_308 rfl ?_
        refine aw_iconst (pc := 310) C dL_law_310 (i := (2 : Int)) (by decide) ?_
        obtain ⟨hp9, hw⟩ := hw
        refine aw_iadd (pc := 311) C dL_law_311 hp9 ?_
        obtain ⟨⟨k9, hp9⟩, hw⟩ := hw
        refine aw_iald (pc := 312) C dL_law_312 hp9 ?_
        refine aw_aload_n (pc := 313) C dL_law_313 rfl rfl ?_
        refine aw_iload (pc := 314) C dL_law_314 rfl ?_
        refine aw_iconst (pc := 316) C dL_law_316 (i := (3 : Int)) (by decide) ?_
        obtain ⟨hp9, hw⟩ := hw
        refine aw_iadd (pc := 317) C dL_law_317 hp9 ?_
        obtain ⟨⟨k9, hp9⟩, hw⟩ := hw
        refine aw_iald (pc := 318) C dL_law_318 hp9 ?_
        refine aw_aload_n (pc := 319) C dL_law_319 rfl rfl ?_
        refine aw_iload (pc := 320) C dL_law_320 rfl ?_
        refine aw_iconst (pc := 322) C dL_law_322 (i := (4 : Int)) (by decide) ?_
        obtain ⟨hp9, hw⟩ := hw
        refine aw_iadd (pc := 323) C dL_law_323 hp9 ?_
        obtain ⟨⟨k9, hp9⟩, hw⟩ := hw
        refine aw_iald (pc := 324) C dL_law_324 hp9 ?_
        obtain ⟨hp9, hw⟩ := hw
        refine aw_callV (pc := 325) (as := [vI (haI h295 a0 (x4_23 + (1 : Int))), vI (haI h295 a0 (x4_23 + (2 : Int))), vI (haI h295 a0 (x4_23 + (3 : Int))), vI (haI h295 a0 (x4_23 + (4 : Int)))]) C ci7 (fun As hA => met_X7_put G l As x2_15 (haI h295 a0 (x4_23 + (1 : Int))) (haI h295 a0 (x4_23 + (2 : Int))) (haI h295 a0 (x4_23 + (3 : Int))) (haI h295 a0 (x4_23 + (4 : Int))) _ _ hA hw) tw893 tw894 tw895 tw10 tw896 ⟨rfl, rfl⟩ ⟨rfl, by decide, by decide, pd_X7_put⟩ ⟨Nat.le_of_ble_eq_true rfl, Nat.le_of_ble_eq_true rfl⟩ ⟨(by show _ ≤ (601024 : Nat); omega), (by show _ ≤ (7293034 : Nat); omega)⟩ (Nat.le_of_ble_eq_true rfl) dL_law_325 rfl hp9 (fun v9 h325 hq9 => ?_)
        obtain ⟨r325, rfl, hw⟩ := hq9
        refine aw_istore (pc := 328) C dL_law_328 (by rw [hml]; decide) ?_
        refine aw_aload_n (pc := 330) C dL_law_330 rfl rfl ?_
        obtain ⟨hp9, hw⟩ := hw
        refine aw_callV (pc := 331) (as := []) C ci7 (fun As hA => met_X7_thrown G l As x2_15 _ _ hA hw) tw856 tw857 tw858 tw10 tw859 ⟨rfl, rfl⟩ ⟨rfl, by decide, by decide, pd_X7_thrown⟩ ⟨Nat.le_of_ble_eq_true rfl, Nat.le_of_ble_eq_true rfl⟩ ⟨(by show _ ≤ (601024 : Nat); omega), (by show _ ≤ (7293034 : Nat); omega)⟩ (Nat.le_of_ble_eq_true rfl) dL_law_331 rfl hp9 (fun v9 h331 hq9 => ?_)
        obtain ⟨r331, rfl, hw⟩ := hq9
        refine aw_iload (pc := 334) C dL_law_334 rfl ?_
        refine aw_icmp_eq (pc := 336) (tgt := 341) C dL_law_336 (by decide) (fun hc9 => ?_) (fun hc9 => ?_)
        · have hw := hw.1 hc9
          refine aw_iload (pc := 341) C dL_law_341 rfl ?_
          obtain ⟨k_358, hk_358, hw⟩ := jn_out hw
          have J_358 : ∀  (h_358 : AH) (bc8 bs8 : Nat), k_358  h_358 → bc8 ≤ bc9 + 1 → bs8 ≤ bs9 + 6 → AW G p l e room_1 s m #[Value.ref b0] below meth c bc8 bs8 (lw_Z below #[Value.ref b0] s0) 358 (eOf [(0, vR a0), (1, vR x1_7), (2, vR x2_15), (3, vR x3_19), (4, vI x4_23)]) [] h_358 := by
            intro  h_358 bc8 bs8 hw hb8 hs8
            rw [hk_358] at hw
            refine aw_goto (pc := 358) (tgt := 1124) C dL_law_358 (by decide) ?_
            refine aw_sub [(0, vR a0), (1, vR x1_7), (2, vR x2_15), (3, vR x3_19), (4, vI x4_23)] ⟨rfl, rfl, rfl, rfl, rfl, trivial⟩ ?_
            exact J_1124  _ _ _ hw (by omega) (by omega)
          refine aw_if_ne (pc := 343) (tgt := 358) C dL_law_343 (by decide) (fun hc9 => ?_) (fun hc9 => ?_)
          · have hw := hw.1 hc9
            refine aw_sub [(0, vR a0), (1, vR x1_7), (2, vR x2_15), (3, vR x3_19), (4, vI x4_23)] ⟨rfl, rfl, rfl, rfl, rfl, trivial⟩ ?_
            exact J_358  _ _ _ hw (by omega) (by omega)
          · have hw := hw.2 hc9
            refine aw_aload_n (pc := 346) C dL_law_346 rfl rfl ?_
            refine aw_iconst (pc := 347) C dL_law_347 (i := (0 : Int)) (by decide) ?_
            obtain ⟨⟨k9, hp9⟩, hw⟩ := hw
            refine aw_lald (pc := 348) C dL_law_348 hp9 ?_
            refine aw_iload (pc := 349) C dL_law_349 rfl ?_
            refine aw_i2l (pc := 351) C dL_law_351  ?_
            refine aw_lcmp (pc := 352) C dL_law_352  ?_
            refine aw_if_eq (pc := 353) (tgt := 358) C dL_law_353 (by decide) (fun hc9 => ?_) (fun hc9 => ?_)
            · have hw := hw.1 hc9
              refine aw_sub [(0, vR a0), (1, vR x1_7), (2, vR x2_15), (3, vR x3_19), (4, vI x4_23)] ⟨rfl, rfl, rfl, rfl, rfl, trivial⟩ ?_
              exact J_358  _ _ _ hw (by omega) (by omega)
            · have hw := hw.2 hc9
              refine aw_iconst (pc := 356) C dL_law_356 (i := (0 : Int)) (by decide) ?_
              exact aw_lawret (pc := 357) hs0 hd0 hH0 C hr dL_law_357 (by omega) (by omega) (hQ _ _ hw)
        · have hw := hw.2 hc9
          refine aw_iconst (pc := 339) C dL_law_339 (i := (0 : Int)) (by decide) ?_
          exact aw_lawret (pc := 340) hs0 hd0 hH0 C hr dL_law_340 (by omega) (by omega) (hQ _ _ hw)
      · have hw := hw.2.2.2.2.1 hc9
        refine aw_tableIn (pc := 39) (off := 322) (tgt := 361) C dL_law_39 (by omega) (by omega) (by rw [hc9]; rfl) (by decide) ?_
        refine aw_aload_n (pc := 361) C dL_law_361 rfl rfl ?_
        obtain ⟨hp9, hw⟩ := hw
        refine aw_callV (pc := 362) (as := []) C ci6 (fun As hA => met_X6_swap G l As x1_7 _ _ hA hw) tw277 tw278 tw279 tw1 tw280 ⟨rfl, rfl⟩ ⟨rfl, by decide, by decide, pd_X6_swap⟩ ⟨Nat.le_of_ble_eq_true rfl, Nat.le_of_ble_eq_true rfl⟩ ⟨(by show _ ≤ (601024 : Nat); omega), (by show _ ≤ (7293034 : Nat); omega)⟩ (Nat.le_of_ble_eq_true rfl) dL_law_362 rfl hp9 (fun v9 h362 hq9 => ?_)
        obtain ⟨r362, rfl, hw⟩ := hq9
        refine aw_aload_n (pc := 365) C dL_law_365 rfl rfl ?_
        obtain ⟨hp9, hw⟩ := hw
        refine aw_callV (pc := 366) (as := []) C ci7 (fun As hA => met_X7_swap G l As x2_15 _ _ hA hw) tw906 tw907 tw908 tw10 tw909 ⟨rfl, rfl⟩ ⟨rfl, by decide, by decide, pd_X7_swap⟩ ⟨Nat.le_of_ble_eq_true rfl, Nat.le_of_ble_eq_true rfl⟩ ⟨(by show _ ≤ (601024 : Nat); omega), (by show _ ≤ (7293034 : Nat); omega)⟩ (Nat.le_of_ble_eq_true rfl) dL_law_366 rfl hp9 (fun v9 h366 hq9 => ?_)
        obtain ⟨r366, rfl, hw⟩ := hq9
        refine aw_icmp_eq (pc := 369) (tgt := 1124) C dL_law_369 (by decide) (fun hc9 => ?_) (fun hc9 => ?_)
        · have hw := hw.1 hc9
          refine aw_sub [(0, vR a0), (1, vR x1_7), (2, vR x2_15), (3, vR x3_19), (4, vI x4_23)] ⟨rfl, rfl, rfl, rfl, rfl, trivial⟩ ?_
          exact J_1124  _ _ _ hw (by omega) (by omega)
        · have hw := hw.2 hc9
          refine aw_iconst (pc := 372) C dL_law_372 (i := (0 : Int)) (by decide) ?_
          exact aw_lawret (pc := 373) hs0 hd0 hH0 C hr dL_law_373 (by omega) (by omega) (hQ _ _ hw)
      · have hw := hw.2.2.2.2.2.1 hc9
        refine aw_tableIn (pc := 39) (off := 335) (tgt := 374) C dL_law_39 (by omega) (by omega) (by rw [hc9]; rfl) (by decide) ?_
        refine aw_aload_n (pc := 374) C dL_law_374 rfl rfl ?_
        refine aw_aload_n (pc := 375) C dL_law_375 rfl rfl ?_
        refine aw_callSW (pc := 376) (as := [vR x1_7, vR x3_19]) C (fun As hA => met_L_undo G l hst As x1_7 x3_19 _ _ hA hw) tw692 tw693 tw0 tw694 ⟨rfl, rfl⟩ ⟨by decide, by decide, pd_L_undo⟩ ⟨Nat.le_of_ble_eq_true rfl, Nat.le_of_ble_eq_true rfl⟩ ⟨(by show _ ≤ (601024 : Nat); omega), (by show _ ≤ (7293034 : Nat); omega)⟩ (Nat.le_of_ble_eq_true rfl) dL_law_376 rfl (fun v9 h376 hq9 => ?_)
        obtain ⟨r376, rfl, hw⟩ := hq9
        refine aw_istore (pc := 379) C dL_law_379 (by rw [hml]; decide) ?_
        refine aw_aload_n (pc := 381) C dL_law_381 rfl rfl ?_
        obtain ⟨hp9, hw⟩ := hw
        refine aw_callV (pc := 382) (as := []) C ci7 (fun As hA => met_X7_undo G l As x2_15 _ _ hA hw) tw860 tw861 tw862 tw10 tw863 ⟨rfl, rfl⟩ ⟨rfl, by decide, by decide, pd_X7_undo⟩ ⟨Nat.le_of_ble_eq_true rfl, Nat.le_of_ble_eq_true rfl⟩ ⟨(by show _ ≤ (601024 : Nat); omega), (by show _ ≤ (7293034 : Nat); omega)⟩ (Nat.le_of_ble_eq_true rfl) dL_law_382 rfl hp9 (fun v9 h382 hq9 => ?_)
        obtain ⟨r382, rfl, hw⟩ := hq9
        refine aw_istore (pc := 385) C dL_law_385 (by rw [hml]; decide) ?_
        refine aw_aload_n (pc := 387) C dL_law_387 rfl rfl ?_
        obtain ⟨hp9, hw⟩ := hw
        refine aw_callV (pc := 388) (as := []) C ci7 (fun As hA => met_X7_thrown G l As x2_15 _ _ hA hw) tw856 tw857 tw858 tw10 tw859 ⟨rfl, rfl⟩ ⟨rfl, by decide, by decide, pd_X7_thrown⟩ ⟨Nat.le_of_ble_eq_true rfl, Nat.le_of_ble_eq_true rfl⟩ ⟨(by show _ ≤ (601024 : Nat); omega), (by show _ ≤ (7293034 : Nat); omega)⟩ (Nat.le_of_ble_eq_true rfl) dL_law_388 rfl hp9 (fun v9 h388 hq9 => ?_)
        obtain ⟨r388, rfl, hw⟩ := hq9
        refine aw_iload (pc := 391) C dL_law_391 rfl ?_
        refine aw_icmp_eq (pc := 393) (tgt := 398) C dL_law_393 (by decide) (fun hc9 => ?_) (fun hc9 => ?_)
        · have hw := hw.1 hc9
          refine aw_iload (pc := 398) C dL_law_398 rfl ?_
          obtain ⟨k_415, hk_415, hw⟩ := jn_out hw
          have J_415 : ∀  (h_415 : AH) (bc8 bs8 : Nat), k_415  h_415 → bc8 ≤ bc9 + 1 → bs8 ≤ bs9 + 6 → AW G p l e room_1 s m #[Value.ref b0] below meth c bc8 bs8 (lw_Z below #[Value.ref b0] s0) 415 (eOf [(0, vR a0), (1, vR x1_7), (2, vR x2_15), (3, vR x3_19), (4, vI x4_23)]) [] h_415 := by
            intro  h_415 bc8 bs8 hw hb8 hs8
            rw [hk_415] at hw
            refine aw_goto (pc := 415) (tgt := 1124) C dL_law_415 (by decide) ?_
            refine aw_sub [(0, vR a0), (1, vR x1_7), (2, vR x2_15), (3, vR x3_19), (4, vI x4_23)] ⟨rfl, rfl, rfl, rfl, rfl, trivial⟩ ?_
            exact J_1124  _ _ _ hw (by omega) (by omega)
          refine aw_if_ne (pc := 400) (tgt := 415) C dL_law_400 (by decide) (fun hc9 => ?_) (fun hc9 => ?_)
          · have hw := hw.1 hc9
            refine aw_sub [(0, vR a0), (1, vR x1_7), (2, vR x2_15), (3, vR x3_19), (4, vI x4_23)] ⟨rfl, rfl, rfl, rfl, rfl, trivial⟩ ?_
            exact J_415  _ _ _ hw (by omega) (by omega)
          · have hw := hw.2 hc9
            refine aw_aload_n (pc := 403) C dL_law_403 rfl rfl ?_
            refine aw_iconst (pc := 404) C dL_law_404 (i := (0 : Int)) (by decide) ?_
            obtain ⟨⟨k9, hp9⟩, hw⟩ := hw
            refine aw_lald (pc := 405) C dL_law_405 hp9 ?_
            refine aw_iload (pc := 406) C dL_law_406 rfl ?_
            refine aw_i2l (pc := 408) C dL_law_408  ?_
            refine aw_lcmp (pc := 409) C dL_law_409  ?_
            refine aw_if_eq (pc := 410) (tgt := 415) C dL_law_410 (by decide) (fun hc9 => ?_) (fun hc9 => ?_)
            · have hw := hw.1 hc9
              refine aw_sub [(0, vR a0), (1, vR x1_7), (2, vR x2_15), (3, vR x3_19), (4, vI x4_23)] ⟨rfl, rfl, rfl, rfl, rfl, trivial⟩ ?_
              exact J_415  _ _ _ hw (by omega) (by omega)
            · have hw := hw.2 hc9
              refine aw_iconst (pc := 413) C dL_law_413 (i := (0 : Int)) (by decide) ?_
              exact aw_lawret (pc := 414) hs0 hd0 hH0 C hr dL_law_414 (by omega) (by omega) (hQ _ _ hw)
        · have hw := hw.2 hc9
          refine aw_iconst (pc := 396) C dL_law_396 (i := (0 : Int)) (by decide) ?_
          exact aw_lawret (pc := 397) hs0 hd0 hH0 C hr dL_law_397 (by omega) (by omega) (hQ _ _ hw)
      · have hw := hw.2.2.2.2.2.2.1 hc9
        refine aw_tableIn (pc := 39) (off := 379) (tgt := 418) C dL_law_39 (by omega) (by omega) (by rw [hc9]; rfl) (by decide) ?_
        refine aw_aload_n (pc := 418) C dL_law_418 rfl rfl ?_
        refine aw_aload_n (pc := 419) C dL_law_419 rfl rfl ?_
        refine aw_iload (pc := 420) C dL_law_420 rfl ?_
        refine aw_iconst (pc := 422) C dL_law_422 (i := (1 : Int)) (by decide) ?_
        obtain ⟨hp9, hw⟩ := hw
        refine aw_iadd (pc := 423) C dL_law_423 hp9 ?_
        obtain ⟨⟨k9, hp9⟩, hw⟩ := hw
        refine aw_iald (pc := 424) C dL_law_424 hp9 ?_
        refine aw_aload_n (pc := 425) C dL_law_425 rfl rfl ?_
        refine aw_callSW (pc := 426) (as := [vR x1_7, vI (haI h_23 a0 (x4_23 + (1 : Int))), vR x3_19]) C (fun As hA => met_L_append G l hst As x1_7 (haI h_23 a0 (x4_23 + (1 : Int))) x3_19 _ _ hA hw) tw700 tw701 tw0 tw702 ⟨rfl, rfl⟩ ⟨by decide, by decide, pd_L_append⟩ ⟨Nat.le_of_ble_eq_true rfl, Nat.le_of_ble_eq_true rfl⟩ ⟨(by show _ ≤ (601024 : Nat); omega), (by show _ ≤ (7293034 : Nat); omega)⟩ (Nat.le_of_ble_eq_true rfl) dL_law_426 rfl (fun v9 h426 hq9 => ?_)
        obtain ⟨r426, rfl, hw⟩ := hq9
        refine aw_istore (pc := 429) C dL_law_429 (by rw [hml]; decide) ?_
        refine aw_aload_n (pc := 431) C dL_law_431 rfl rfl ?_
        refine aw_aload_n (pc := 432) C dL_law_432 rfl rfl ?_
        refine aw_iload (pc := 433) C dL_law_433 rfl ?_
        refine aw_iconst (pc := 435) C dL_law_435 (i := (1 : Int)) (by decide) ?_
        obtain ⟨hp9, hw⟩ := hw
        refine aw_iadd (pc := 436) C dL_law_436 hp9 ?_
        obtain ⟨⟨k9, hp9⟩, hw⟩ := hw
        refine aw_iald (pc := 437) C dL_law_437 hp9 ?_
        obtain ⟨hp9, hw⟩ := hw
        refine aw_callV (pc := 438) (as := [vI (haI h426 a0 (x4_23 + (1 : Int)))]) C ci7 (fun As hA => met_X7_append G l As x2_15 (haI h426 a0 (x4_23 + (1 : Int))) _ _ hA hw) tw989 tw990 tw991 tw10 tw992 ⟨rfl, rfl⟩ ⟨rfl, by decide, by decide, pd_X7_append⟩ ⟨Nat.le_of_ble_eq_true rfl, Nat.le_of_ble_eq_true rfl⟩ ⟨(by show _ ≤ (601024 : Nat); omega), (by show _ ≤ (7293034 : Nat); omega)⟩ (Nat.le_of_ble_eq_true rfl) dL_law_438 rfl hp9 (fun v9 h438 hq9 => ?_)
        obtain ⟨r438, rfl, hw⟩ := hq9
        refine aw_istore (pc := 441) C dL_law_441 (by rw [hml]; decide) ?_
        refine aw_aload_n (pc := 443) C dL_law_443 rfl rfl ?_
        obtain ⟨hp9, hw⟩ := hw
        refine aw_callV (pc := 444) (as := []) C ci7 (fun As hA => met_X7_thrown G l As x2_15 _ _ hA hw) tw856 tw857 tw858 tw10 tw859 ⟨rfl, rfl⟩ ⟨rfl, by decide, by decide, pd_X7_thrown⟩ ⟨Nat.le_of_ble_eq_true rfl, Nat.le_of_ble_eq_true rfl⟩ ⟨(by show _ ≤ (601024 : Nat); omega), (by show _ ≤ (7293034 : Nat); omega)⟩ (Nat.le_of_ble_eq_true rfl) dL_law_444 rfl hp9 (fun v9 h444 hq9 => ?_)
        obtain ⟨r444, rfl, hw⟩ := hq9
        refine aw_iload (pc := 447) C dL_law_447 rfl ?_
        refine aw_icmp_eq (pc := 449) (tgt := 454) C dL_law_449 (by decide) (fun hc9 => ?_) (fun hc9 => ?_)
        · have hw := hw.1 hc9
          refine aw_iload (pc := 454) C dL_law_454 rfl ?_
          obtain ⟨k_471, hk_471, hw⟩ := jn_out hw
          have J_471 : ∀  (h_471 : AH) (bc8 bs8 : Nat), k_471  h_471 → bc8 ≤ bc9 + 1 → bs8 ≤ bs9 + 6 → AW G p l e room_1 s m #[Value.ref b0] below meth c bc8 bs8 (lw_Z below #[Value.ref b0] s0) 471 (eOf [(0, vR a0), (1, vR x1_7), (2, vR x2_15), (3, vR x3_19), (4, vI x4_23)]) [] h_471 := by
            intro  h_471 bc8 bs8 hw hb8 hs8
            rw [hk_471] at hw
            refine aw_goto (pc := 471) (tgt := 1124) C dL_law_471 (by decide) ?_
            refine aw_sub [(0, vR a0), (1, vR x1_7), (2, vR x2_15), (3, vR x3_19), (4, vI x4_23)] ⟨rfl, rfl, rfl, rfl, rfl, trivial⟩ ?_
            exact J_1124  _ _ _ hw (by omega) (by omega)
          refine aw_if_ne (pc := 456) (tgt := 471) C dL_law_456 (by decide) (fun hc9 => ?_) (fun hc9 => ?_)
          · have hw := hw.1 hc9
            refine aw_sub [(0, vR a0), (1, vR x1_7), (2, vR x2_15), (3, vR x3_19), (4, vI x4_23)] ⟨rfl, rfl, rfl, rfl, rfl, trivial⟩ ?_
            exact J_471  _ _ _ hw (by omega) (by omega)
          · have hw := hw.2 hc9
            refine aw_aload_n (pc := 459) C dL_law_459 rfl rfl ?_
            refine aw_iconst (pc := 460) C dL_law_460 (i := (0 : Int)) (by decide) ?_
            obtain ⟨⟨k9, hp9⟩, hw⟩ := hw
            refine aw_lald (pc := 461) C dL_law_461 hp9 ?_
            refine aw_iload (pc := 462) C dL_law_462 rfl ?_
            refine aw_i2l (pc := 464) C dL_law_464  ?_
            refine aw_lcmp (pc := 465) C dL_law_465  ?_
            refine aw_if_eq (pc := 466) (tgt := 471) C dL_law_466 (by decide) (fun hc9 => ?_) (fun hc9 => ?_)
            · have hw := hw.1 hc9
              refine aw_sub [(0, vR a0), (1, vR x1_7), (2, vR x2_15), (3, vR x3_19), (4, vI x4_23)] ⟨rfl, rfl, rfl, rfl, rfl, trivial⟩ ?_
              exact J_471  _ _ _ hw (by omega) (by omega)
            · have hw := hw.2 hc9
              refine aw_iconst (pc := 469) C dL_law_469 (i := (0 : Int)) (by decide) ?_
              exact aw_lawret (pc := 470) hs0 hd0 hH0 C hr dL_law_470 (by omega) (by omega) (hQ _ _ hw)
        · have hw := hw.2 hc9
          refine aw_iconst (pc := 452) C dL_law_452 (i := (0 : Int)) (by decide) ?_
          exact aw_lawret (pc := 453) hs0 hd0 hH0 C hr dL_law_453 (by omega) (by omega) (hQ _ _ hw)
      · have hw := hw.2.2.2.2.2.2.2.1 hc9
        refine aw_tableIn (pc := 39) (off := 435) (tgt := 474) C dL_law_39 (by omega) (by omega) (by rw [hc9]; rfl) (by decide) ?_
        refine aw_aload_n (pc := 474) C dL_law_474 rfl rfl ?_
        obtain ⟨hp9, hw⟩ := hw
        refine aw_callV (pc := 475) (as := []) C ci6 (fun As hA => met_X6_clearBuffer G l As x1_7 _ _ hA hw) tw386 tw387 tw388 tw1 tw389 ⟨rfl, rfl⟩ ⟨rfl, by decide, by decide, pd_X6_clearBuffer⟩ ⟨Nat.le_of_ble_eq_true rfl, Nat.le_of_ble_eq_true rfl⟩ ⟨(by show _ ≤ (601024 : Nat); omega), (by show _ ≤ (7293034 : Nat); omega)⟩ (Nat.le_of_ble_eq_true rfl) dL_law_475 rfl hp9 (fun v9 h475 hq9 => ?_)
        obtain ⟨r475, rfl, hw⟩ := hq9
        refine aw_aload_n (pc := 478) C dL_law_478 rfl rfl ?_
        obtain ⟨hp9, hw⟩ := hw
        refine aw_callV (pc := 479) (as := []) C ci7 (fun As hA => met_X7_clearBuffer G l As x2_15 _ _ hA hw) tw993 tw994 tw995 tw10 tw996 ⟨rfl, rfl⟩ ⟨rfl, by decide, by decide, pd_X7_clearBuffer⟩ ⟨Nat.le_of_ble_eq_true rfl, Nat.le_of_ble_eq_true rfl⟩ ⟨(by show _ ≤ (601024 : Nat); omega), (by show _ ≤ (7293034 : Nat); omega)⟩ (Nat.le_of_ble_eq_true rfl) dL_law_479 rfl hp9 (fun v9 h479 hq9 => ?_)
        obtain ⟨r479, rfl, hw⟩ := hq9
        refine aw_icmp_eq (pc := 482) (tgt := 1124) C dL_law_482 (by decide) (fun hc9 => ?_) (fun hc9 => ?_)
        · have hw := hw.1 hc9
          refine aw_sub [(0, vR a0), (1, vR x1_7), (2, vR x2_15), (3, vR x3_19), (4, vI x4_23)] ⟨rfl, rfl, rfl, rfl, rfl, trivial⟩ ?_
          exact J_1124  _ _ _ hw (by omega) (by omega)
        · have hw := hw.2 hc9
          refine aw_iconst (pc := 485) C dL_law_485 (i := (0 : Int)) (by decide) ?_
          exact aw_lawret (pc := 486) hs0 hd0 hH0 C hr dL_law_486 (by omega) (by omega) (hQ _ _ hw)
      · have hw := hw.2.2.2.2.2.2.2.2.1 hc9
        refine aw_tableIn (pc := 39) (off := 448) (tgt := 487) C dL_law_39 (by omega) (by omega) (by rw [hc9]; rfl) (by decide) ?_
        refine aw_aload_n (pc := 487) C dL_law_487 rfl rfl ?_
        obtain ⟨hp9, hw⟩ := hw
        refine aw_callV (pc := 488) (as := []) C ci6 (fun As hA => met_X6_firstError G l As x1_7 _ _ hA hw) tw390 tw391 tw392 tw1 tw393 ⟨rfl, rfl⟩ ⟨rfl, by decide, by decide, pd_X6_firstError⟩ ⟨Nat.le_of_ble_eq_true rfl, Nat.le_of_ble_eq_true rfl⟩ ⟨(by show _ ≤ (601024 : Nat); omega), (by show _ ≤ (7293034 : Nat); omega)⟩ (Nat.le_of_ble_eq_true rfl) dL_law_488 rfl hp9 (fun v9 h488 hq9 => ?_)
        obtain ⟨r488, rfl, hw⟩ := hq9
        refine aw_aload_n (pc := 491) C dL_law_491 rfl rfl ?_
        obtain ⟨hp9, hw⟩ := hw
        refine aw_callV (pc := 492) (as := []) C ci7 (fun As hA => met_X7_firstError G l As x2_15 _ _ hA hw) tw997 tw998 tw999 tw10 tw1000 ⟨rfl, rfl⟩ ⟨rfl, by decide, by decide, pd_X7_firstError⟩ ⟨Nat.le_of_ble_eq_true rfl, Nat.le_of_ble_eq_true rfl⟩ ⟨(by show _ ≤ (601024 : Nat); omega), (by show _ ≤ (7293034 : Nat); omega)⟩ (Nat.le_of_ble_eq_true rfl) dL_law_492 rfl hp9 (fun v9 h492 hq9 => ?_)
        obtain ⟨r492, rfl, hw⟩ := hq9
        refine aw_icmp_eq (pc := 495) (tgt := 1124) C dL_law_495 (by decide) (fun hc9 => ?_) (fun hc9 => ?_)
        · have hw := hw.1 hc9
          refine aw_sub [(0, vR a0), (1, vR x1_7), (2, vR x2_15), (3, vR x3_19), (4, vI x4_23)] ⟨rfl, rfl, rfl, rfl, rfl, trivial⟩ ?_
          exact J_1124  _ _ _ hw (by omega) (by omega)
        · have hw := hw.2 hc9
          refine aw_iconst (pc := 498) C dL_law_498 (i := (0 : Int)) (by decide) ?_
          exact aw_lawret (pc := 499) hs0 hd0 hH0 C hr dL_law_499 (by omega) (by omega) (hQ _ _ hw)
      · have hw := hw.2.2.2.2.2.2.2.2.2.1 hc9
        refine aw_tableIn (pc := 39) (off := 461) (tgt := 500) C dL_law_39 (by omega) (by omega) (by rw [hc9]; rfl) (by decide) ?_
        refine aw_aload_n (pc := 500) C dL_law_500 rfl rfl ?_
        refine aw_aload_n (pc := 501) C dL_law_501 rfl rfl ?_
        refine aw_iload (pc := 502) C dL_law_502 rfl ?_
        refine aw_iconst (pc := 504) C dL_law_504 (i := (1 : Int)) (by decide) ?_
        obtain ⟨hp9, hw⟩ := hw
        refine aw_iadd (pc := 505) C dL_law_505 hp9 ?_
        obtain ⟨⟨k9, hp9⟩, hw⟩ := hw
        refine aw_iald (pc := 506) C dL_law_506 hp9 ?_
        refine aw_aload_n (pc := 507) C dL_law_507 rfl rfl ?_
        refine aw_iload (pc := 508) C dL_law_508 rfl ?_
        refine aw_iconst (pc := 510) C dL_law_510 (i := (2 : Int)) (by decide) ?_
        obtain ⟨hp9, hw⟩ := hw
        refine aw_iadd (pc := 511) C dL_law_511 hp9 ?_
        obtain ⟨⟨k9, hp9⟩, hw⟩ := hw
        refine aw_iald (pc := 512) C dL_law_512 hp9 ?_
        refine aw_aload_n (pc := 513) C dL_law_513 rfl rfl ?_
        refine aw_iload (pc := 514) C dL_law_514 rfl ?_
        refine aw_iconst (pc := 516) C dL_law_516 (i := (3 : Int)) (by decide) ?_
        obtain ⟨hp9, hw⟩ := hw
        refine aw_iadd (pc := 517) C dL_law_517 hp9 ?_
        obtain ⟨⟨k9, hp9⟩, hw⟩ := hw
        refine aw_iald (pc := 518) C dL_law_518 hp9 ?_
        refine aw_aload_n (pc := 519) C dL_law_519 rfl rfl ?_
        refine aw_callSW (pc := 520) (as := [vR x1_7, vI (haI h_23 a0 (x4_23 + (1 : Int))), vI (haI h_23 a0 (x4_23 + (2 : Int))), vI (haI h_23 a0 (x4_23 + (3 : Int))), vR x3_19]) C (fun As hA => met_L_letter G l hst As x1_7 (haI h_23 a0 (x4_23 + (1 : Int))) (haI h_23 a0 (x4_23 + (2 : Int))) (haI h_23 a0 (x4_23 + (3 : Int))) x3_19 _ _ hA hw) tw709 tw710 tw0 tw711 ⟨rfl, rfl⟩ ⟨by decide, by decide, pd_L_letter⟩ ⟨Nat.le_of_ble_eq_true rfl, Nat.le_of_ble_eq_true rfl⟩ ⟨(by show _ ≤ (601024 : Nat); omega), (by show _ ≤ (7293034 : Nat); omega)⟩ (Nat.le_of_ble_eq_true rfl) dL_law_520 rfl (fun v9 h520 hq9 => ?_)
        obtain ⟨r520, rfl, hw⟩ := hq9
        refine aw_istore (pc := 523) C dL_law_523 (by rw [hml]; decide) ?_
        refine aw_aload_n (pc := 525) C dL_law_525 rfl rfl ?_
        refine aw_aload_n (pc := 526) C dL_law_526 rfl rfl ?_
        refine aw_iload (pc := 527) C dL_law_527 rfl ?_
        refine aw_iconst (pc := 529) C dL_law_529 (i := (1 : Int)) (by decide) ?_
        obtain ⟨hp9, hw⟩ := hw
        refine aw_iadd (pc := 530) C dL_law_530 hp9 ?_
        obtain ⟨⟨k9, hp9⟩, hw⟩ := hw
        refine aw_iald (pc := 531) C dL_law_531 hp9 ?_
        refine aw_aload_n (pc := 532) C dL_law_532 rfl rfl ?_
        refine aw_iload (pc := 533) C dL_law_533 rfl ?_
        refine aw_iconst (pc := 535) C dL_law_535 (i := (2 : Int)) (by decide) ?_
        obtain ⟨hp9, hw⟩ := hw
        refine aw_iadd (pc := 536) C dL_law_536 hp9 ?_
        obtain ⟨⟨k9, hp9⟩, hw⟩ := hw
        refine aw_iald (pc := 537) C dL_law_537 hp9 ?_
        refine aw_aload_n (pc := 538) C dL_law_538 rfl rfl ?_
        refine aw_iload (pc := 539) C dL_law_539 rfl ?_
        refine aw_iconst (pc := 541) C dL_law_541 (i := (3 : Int)) (by decide) ?_
        obtain ⟨hp9, hw⟩ := hw
        refine aw_iadd (pc := 542) C dL_law_542 hp9 ?_
        obtain ⟨⟨k9, hp9⟩, hw⟩ := hw
        refine aw_iald (pc := 543) C dL_law_543 hp9 ?_
        obtain ⟨hp9, hw⟩ := hw
        refine aw_callV (pc := 544) (as := [vI (haI h520 a0 (x4_23 + (1 : Int))), vI (haI h520 a0 (x4_23 + (2 : Int))), vI (haI h520 a0 (x4_23 + (3 : Int)))]) C ci7 (fun As hA => met_X7_letter G l As x2_15 (haI h520 a0 (x4_23 + (1 : Int))) (haI h520 a0 (x4_23 + (2 : Int))) (haI h520 a0 (x4_23 + (3 : Int))) _ _ hA hw) tw1009 tw1010 tw1011 tw10 tw1012 ⟨rfl, rfl⟩ ⟨rfl, by decide, by decide, pd_X7_letter⟩ ⟨Nat.le_of_ble_eq_true rfl, Nat.le_of_ble_eq_true rfl⟩ ⟨(by show _ ≤ (601024 : Nat); omega), (by show _ ≤ (7293034 : Nat); omega)⟩ (Nat.le_of_ble_eq_true rfl) dL_law_544 rfl hp9 (fun v9 h544 hq9 => ?_)
        obtain ⟨r544, rfl, hw⟩ := hq9
        refine aw_istore (pc := 547) C dL_law_547 (by rw [hml]; decide) ?_
        refine aw_aload_n (pc := 549) C dL_law_549 rfl rfl ?_
        obtain ⟨hp9, hw⟩ := hw
        refine aw_callV (pc := 550) (as := []) C ci7 (fun As hA => met_X7_thrown G l As x2_15 _ _ hA hw) tw856 tw857 tw858 tw10 tw859 ⟨rfl, rfl⟩ ⟨rfl, by decide, by decide, pd_X7_thrown⟩ ⟨Nat.le_of_ble_eq_true rfl, Nat.le_of_ble_eq_true rfl⟩ ⟨(by show _ ≤ (601024 : Nat); omega), (by show _ ≤ (7293034 : Nat); omega)⟩ (Nat.le_of_ble_eq_true rfl) dL_law_550 rfl hp9 (fun v9 h550 hq9 => ?_)
        obtain ⟨r550, rfl, hw⟩ := hq9
        refine aw_iload (pc := 553) C dL_law_553 rfl ?_
        refine aw_icmp_eq (pc := 555) (tgt := 560) C dL_law_555 (by decide) (fun hc9 => ?_) (fun hc9 => ?_)
        · have hw := hw.1 hc9
          refine aw_iload (pc := 560) C dL_law_560 rfl ?_
          obtain ⟨k_577, hk_577, hw⟩ := jn_out hw
          have J_577 : ∀  (h_577 : AH) (bc8 bs8 : Nat), k_577  h_577 → bc8 ≤ bc9 + 1 → bs8 ≤ bs9 + 6 → AW G p l e room_1 s m #[Value.ref b0] below meth c bc8 bs8 (lw_Z below #[Value.ref b0] s0) 577 (eOf [(0, vR a0), (1, vR x1_7), (2, vR x2_15), (3, vR x3_19), (4, vI x4_23)]) [] h_577 := by
            intro  h_577 bc8 bs8 hw hb8 hs8
            rw [hk_577] at hw
            refine aw_goto (pc := 577) (tgt := 1124) C dL_law_577 (by decide) ?_
            refine aw_sub [(0, vR a0), (1, vR x1_7), (2, vR x2_15), (3, vR x3_19), (4, vI x4_23)] ⟨rfl, rfl, rfl, rfl, rfl, trivial⟩ ?_
            exact J_1124  _ _ _ hw (by omega) (by omega)
          refine aw_if_ne (pc := 562) (tgt := 577) C dL_law_562 (by decide) (fun hc9 => ?_) (fun hc9 => ?_)
          · have hw := hw.1 hc9
            refine aw_sub [(0, vR a0), (1, vR x1_7), (2, vR x2_15), (3, vR x3_19), (4, vI x4_23)] ⟨rfl, rfl, rfl, rfl, rfl, trivial⟩ ?_
            exact J_577  _ _ _ hw (by omega) (by omega)
          · have hw := hw.2 hc9
            refine aw_aload_n (pc := 565) C dL_law_565 rfl rfl ?_
            refine aw_iconst (pc := 566) C dL_law_566 (i := (0 : Int)) (by decide) ?_
            obtain ⟨⟨k9, hp9⟩, hw⟩ := hw
            refine aw_lald (pc := 567) C dL_law_567 hp9 ?_
            refine aw_iload (pc := 568) C dL_law_568 rfl ?_
            refine aw_i2l (pc := 570) C dL_law_570  ?_
            refine aw_lcmp (pc := 571) C dL_law_571  ?_
            refine aw_if_eq (pc := 572) (tgt := 577) C dL_law_572 (by decide) (fun hc9 => ?_) (fun hc9 => ?_)
            · have hw := hw.1 hc9
              refine aw_sub [(0, vR a0), (1, vR x1_7), (2, vR x2_15), (3, vR x3_19), (4, vI x4_23)] ⟨rfl, rfl, rfl, rfl, rfl, trivial⟩ ?_
              exact J_577  _ _ _ hw (by omega) (by omega)
            · have hw := hw.2 hc9
              refine aw_iconst (pc := 575) C dL_law_575 (i := (0 : Int)) (by decide) ?_
              exact aw_lawret (pc := 576) hs0 hd0 hH0 C hr dL_law_576 (by omega) (by omega) (hQ _ _ hw)
        · have hw := hw.2 hc9
          refine aw_iconst (pc := 558) C dL_law_558 (i := (0 : Int)) (by decide) ?_
          exact aw_lawret (pc := 559) hs0 hd0 hH0 C hr dL_law_559 (by omega) (by omega) (hQ _ _ hw)
      · have hw := hw.2.2.2.2.2.2.2.2.2.2.1 hc9
        refine aw_tableIn (pc := 39) (off := 541) (tgt := 580) C dL_law_39 (by omega) (by omega) (by rw [hc9]; rfl) (by decide) ?_
        refine aw_aload_n (pc := 580) C dL_law_580 rfl rfl ?_
        refine aw_aload_n (pc := 581) C dL_law_581 rfl rfl ?_
        refine aw_iload (pc := 582) C dL_law_582 rfl ?_
        refine aw_iconst (pc := 584) C dL_law_584 (i := (1 : Int)) (by decide) ?_
        obtain ⟨hp9, hw⟩ := hw
        refine aw_iadd (pc := 585) C dL_law_585 hp9 ?_
        obtain ⟨⟨k9, hp9⟩, hw⟩ := hw
        refine aw_iald (pc := 586) C dL_law_586 hp9 ?_
        refine aw_aload_n (pc := 587) C dL_law_587 rfl rfl ?_
        refine aw_iload (pc := 588) C dL_law_588 rfl ?_
        refine aw_iconst (pc := 590) C dL_law_590 (i := (2 : Int)) (by decide) ?_
        obtain ⟨hp9, hw⟩ := hw
        refine aw_iadd (pc := 591) C dL_law_591 hp9 ?_
        obtain ⟨⟨k9, hp9⟩, hw⟩ := hw
        refine aw_iald (pc := 592) C dL_law_592 hp9 ?_
        refine aw_aload_n (pc := 593) C dL_law_593 rfl rfl ?_
        refine aw_callSW (pc := 594) (as := [vR x1_7, vI (haI h_23 a0 (x4_23 + (1 : Int))), vI (haI h_23 a0 (x4_23 + (2 : Int))), vR x3_19]) C (fun As hA => met_L_way G l hst As x1_7 (haI h_23 a0 (x4_23 + (1 : Int))) (haI h_23 a0 (x4_23 + (2 : Int))) x3_19 _ _ hA hw) tw718 tw719 tw0 tw720 ⟨rfl, rfl⟩ ⟨by decide, by decide, pd_L_way⟩ ⟨Nat.le_of_ble_eq_true rfl, Nat.le_of_ble_eq_true rfl⟩ ⟨(by show _ ≤ (601024 : Nat); omega), (by show _ ≤ (7293034 : Nat); omega)⟩ (Nat.le_of_ble_eq_true rfl) dL_law_594 rfl (fun v9 h594 hq9 => ?_)
        obtain ⟨r594, rfl, hw⟩ := hq9
        refine aw_istore (pc := 597) C dL_law_597 (by rw [hml]; decide) ?_
        refine aw_aload_n (pc := 599) C dL_law_599 rfl rfl ?_
        refine aw_aload_n (pc := 600) C dL_law_600 rfl rfl ?_
        refine aw_iload (pc := 601) C dL_law_601 rfl ?_
        refine aw_iconst (pc := 603) C dL_law_603 (i := (1 : Int)) (by decide) ?_
        obtain ⟨hp9, hw⟩ := hw
        refine aw_iadd (pc := 604) C dL_law_604 hp9 ?_
        obtain ⟨⟨k9, hp9⟩, hw⟩ := hw
        refine aw_iald (pc := 605) C dL_law_605 hp9 ?_
        refine aw_aload_n (pc := 606) C dL_law_606 rfl rfl ?_
        refine aw_iload (pc := 607) C dL_law_607 rfl ?_
        refine aw_iconst (pc := 609) C dL_law_609 (i := (2 : Int)) (by decide) ?_
        obtain ⟨hp9, hw⟩ := hw
        refine aw_iadd (pc := 610) C dL_law_610 hp9 ?_
        obtain ⟨⟨k9, hp9⟩, hw⟩ := hw
        refine aw_iald (pc := 611) C dL_law_611 hp9 ?_
        obtain ⟨hp9, hw⟩ := hw
        refine aw_callV (pc := 612) (as := [vI (haI h594 a0 (x4_23 + (1 : Int))), vI (haI h594 a0 (x4_23 + (2 : Int)))]) C ci7 (fun As hA => met_X7_way G l As x2_15 (haI h594 a0 (x4_23 + (1 : Int))) (haI h594 a0 (x4_23 + (2 : Int))) _ _ hA hw) tw1017 tw1018 tw1019 tw10 tw1020 ⟨rfl, rfl⟩ ⟨rfl, by decide, by decide, pd_X7_way⟩ ⟨Nat.le_of_ble_eq_true rfl, Nat.le_of_ble_eq_true rfl⟩ ⟨(by show _ ≤ (601024 : Nat); omega), (by show _ ≤ (7293034 : Nat); omega)⟩ (Nat.le_of_ble_eq_true rfl) dL_law_612 rfl hp9 (fun v9 h612 hq9 => ?_)
        obtain ⟨r612, rfl, hw⟩ := hq9
        refine aw_istore (pc := 615) C dL_law_615 (by rw [hml]; decide) ?_
        refine aw_aload_n (pc := 617) C dL_law_617 rfl rfl ?_
        obtain ⟨hp9, hw⟩ := hw
        refine aw_callV (pc := 618) (as := []) C ci7 (fun As hA => met_X7_thrown G l As x2_15 _ _ hA hw) tw856 tw857 tw858 tw10 tw859 ⟨rfl, rfl⟩ ⟨rfl, by decide, by decide, pd_X7_thrown⟩ ⟨Nat.le_of_ble_eq_true rfl, Nat.le_of_ble_eq_true rfl⟩ ⟨(by show _ ≤ (601024 : Nat); omega), (by show _ ≤ (7293034 : Nat); omega)⟩ (Nat.le_of_ble_eq_true rfl) dL_law_618 rfl hp9 (fun v9 h618 hq9 => ?_)
        obtain ⟨r618, rfl, hw⟩ := hq9
        refine aw_iload (pc := 621) C dL_law_621 rfl ?_
        refine aw_icmp_eq (pc := 623) (tgt := 628) C dL_law_623 (by decide) (fun hc9 => ?_) (fun hc9 => ?_)
        · have hw := hw.1 hc9
          refine aw_iload (pc := 628) C dL_law_628 rfl ?_
          obtain ⟨k_645, hk_645, hw⟩ := jn_out hw
          have J_645 : ∀  (h_645 : AH) (bc8 bs8 : Nat), k_645  h_645 → bc8 ≤ bc9 + 1 → bs8 ≤ bs9 + 6 → AW G p l e room_1 s m #[Value.ref b0] below meth c bc8 bs8 (lw_Z below #[Value.ref b0] s0) 645 (eOf [(0, vR a0), (1, vR x1_7), (2, vR x2_15), (3, vR x3_19), (4, vI x4_23)]) [] h_645 := by
            intro  h_645 bc8 bs8 hw hb8 hs8
            rw [hk_645] at hw
            refine aw_goto (pc := 645) (tgt := 1124) C dL_law_645 (by decide) ?_
            refine aw_sub [(0, vR a0), (1, vR x1_7), (2, vR x2_15), (3, vR x3_19), (4, vI x4_23)] ⟨rfl, rfl, rfl, rfl, rfl, trivial⟩ ?_
            exact J_1124  _ _ _ hw (by omega) (by omega)
          refine aw_if_ne (pc := 630) (tgt := 645) C dL_law_630 (by decide) (fun hc9 => ?_) (fun hc9 => ?_)
          · have hw := hw.1 hc9
            refine aw_sub [(0, vR a0), (1, vR x1_7), (2, vR x2_15), (3, vR x3_19), (4, vI x4_23)] ⟨rfl, rfl, rfl, rfl, rfl, trivial⟩ ?_
            exact J_645  _ _ _ hw (by omega) (by omega)
          · have hw := hw.2 hc9
            refine aw_aload_n (pc := 633) C dL_law_633 rfl rfl ?_
            refine aw_iconst (pc := 634) C dL_law_634 (i := (0 : Int)) (by decide) ?_
            obtain ⟨⟨k9, hp9⟩, hw⟩ := hw
            refine aw_lald (pc := 635) C dL_law_635 hp9 ?_
            refine aw_iload (pc := 636) C dL_law_636 rfl ?_
            refine aw_i2l (pc := 638) C dL_law_638  ?_
            refine aw_lcmp (pc := 639) C dL_law_639  ?_
            refine aw_if_eq (pc := 640) (tgt := 645) C dL_law_640 (by decide) (fun hc9 => ?_) (fun hc9 => ?_)
            · have hw := hw.1 hc9
              refine aw_sub [(0, vR a0), (1, vR x1_7), (2, vR x2_15), (3, vR x3_19), (4, vI x4_23)] ⟨rfl, rfl, rfl, rfl, rfl, trivial⟩ ?_
              exact J_645  _ _ _ hw (by omega) (by omega)
            · have hw := hw.2 hc9
              refine aw_iconst (pc := 643) C dL_law_643 (i := (0 : Int)) (by decide) ?_
              exact aw_lawret (pc := 644) hs0 hd0 hH0 C hr dL_law_644 (by omega) (by omega) (hQ _ _ hw)
        · have hw := hw.2 hc9
          refine aw_iconst (pc := 626) C dL_law_626 (i := (0 : Int)) (by decide) ?_
          exact aw_lawret (pc := 627) hs0 hd0 hH0 C hr dL_law_627 (by omega) (by omega) (hQ _ _ hw)
      · have hw := hw.2.2.2.2.2.2.2.2.2.2.2.1 hc9
        refine aw_tableIn (pc := 39) (off := 609) (tgt := 648) C dL_law_39 (by omega) (by omega) (by rw [hc9]; rfl) (by decide) ?_
        refine aw_aload_n (pc := 648) C dL_law_648 rfl rfl ?_
        refine aw_aload_n (pc := 649) C dL_law_649 rfl rfl ?_
        refine aw_iload (pc := 650) C dL_law_650 rfl ?_
        refine aw_iconst (pc := 652) C dL_law_652 (i := (1 : Int)) (by decide) ?_
        obtain ⟨hp9, hw⟩ := hw
        refine aw_iadd (pc := 653) C dL_law_653 hp9 ?_
        obtain ⟨⟨k9, hp9⟩, hw⟩ := hw
        refine aw_iald (pc := 654) C dL_law_654 hp9 ?_
        refine aw_aload_n (pc := 655) C dL_law_655 rfl rfl ?_
        refine aw_iload (pc := 656) C dL_law_656 rfl ?_
        refine aw_iconst (pc := 658) C dL_law_658 (i := (2 : Int)) (by decide) ?_
        obtain ⟨hp9, hw⟩ := hw
        refine aw_iadd (pc := 659) C dL_law_659 hp9 ?_
        obtain ⟨⟨k9, hp9⟩, hw⟩ := hw
        refine aw_iald (pc := 660) C dL_law_660 hp9 ?_
        refine aw_aload_n (pc := 661) C dL_law_661 rfl rfl ?_
        refine aw_iload (pc := 662) C dL_law_662 rfl ?_
        refine aw_iconst (pc := 664) C dL_law_664 (i := (3 : Int)) (by decide) ?_
        obtain ⟨hp9, hw⟩ := hw
        refine aw_iadd (pc := 665) C dL_law_665 hp9 ?_
        obtain ⟨⟨k9, hp9⟩, hw⟩ := hw
        refine aw_iald (pc := 666) C dL_law_666 hp9 ?_
        refine aw_aload_n (pc := 667) C dL_law_667 rfl rfl ?_
        refine aw_callSW (pc := 668) (as := [vR x1_7, vI (haI h_23 a0 (x4_23 + (1 : Int))), vI (haI h_23 a0 (x4_23 + (2 : Int))), vI (haI h_23 a0 (x4_23 + (3 : Int))), vR x3_19]) C (fun As hA => met_L_at G l hst As x1_7 (haI h_23 a0 (x4_23 + (1 : Int))) (haI h_23 a0 (x4_23 + (2 : Int))) (haI h_23 a0 (x4_23 + (3 : Int))) x3_19 _ _ hA hw) tw730 tw731 tw0 tw732 ⟨rfl, rfl⟩ ⟨by decide, by decide, pd_L_at⟩ ⟨Nat.le_of_ble_eq_true rfl, Nat.le_of_ble_eq_true rfl⟩ ⟨(by show _ ≤ (601024 : Nat); omega), (by show _ ≤ (7293034 : Nat); omega)⟩ (Nat.le_of_ble_eq_true rfl) dL_law_668 rfl (fun v9 h668 hq9 => ?_)
        obtain ⟨r668, rfl, hw⟩ := hq9
        refine aw_istore (pc := 671) C dL_law_671 (by rw [hml]; decide) ?_
        refine aw_aload_n (pc := 673) C dL_law_673 rfl rfl ?_
        refine aw_aload_n (pc := 674) C dL_law_674 rfl rfl ?_
        refine aw_iload (pc := 675) C dL_law_675 rfl ?_
        refine aw_iconst (pc := 677) C dL_law_677 (i := (1 : Int)) (by decide) ?_
        obtain ⟨hp9, hw⟩ := hw
        refine aw_iadd (pc := 678) C dL_law_678 hp9 ?_
        obtain ⟨⟨k9, hp9⟩, hw⟩ := hw
        refine aw_iald (pc := 679) C dL_law_679 hp9 ?_
        refine aw_aload_n (pc := 680) C dL_law_680 rfl rfl ?_
        refine aw_iload (pc := 681) C dL_law_681 rfl ?_
        refine aw_iconst (pc := 683) C dL_law_683 (i := (2 : Int)) (by decide) ?_
        obtain ⟨hp9, hw⟩ := hw
        refine aw_iadd (pc := 684) C dL_law_684 hp9 ?_
        obtain ⟨⟨k9, hp9⟩, hw⟩ := hw
        refine aw_iald (pc := 685) C dL_law_685 hp9 ?_
        refine aw_aload_n (pc := 686) C dL_law_686 rfl rfl ?_
        refine aw_iload (pc := 687) C dL_law_687 rfl ?_
        refine aw_iconst (pc := 689) C dL_law_689 (i := (3 : Int)) (by decide) ?_
        obtain ⟨hp9, hw⟩ := hw
        refine aw_iadd (pc := 690) C dL_law_690 hp9 ?_
        obtain ⟨⟨k9, hp9⟩, hw⟩ := hw
        refine aw_iald (pc := 691) C dL_law_691 hp9 ?_
        obtain ⟨hp9, hw⟩ := hw
        refine aw_callV (pc := 692) (as := [vI (haI h668 a0 (x4_23 + (1 : Int))), vI (haI h668 a0 (x4_23 + (2 : Int))), vI (haI h668 a0 (x4_23 + (3 : Int)))]) C ci7 (fun As hA => met_X7_at G l As x2_15 (haI h668 a0 (x4_23 + (1 : Int))) (haI h668 a0 (x4_23 + (2 : Int))) (haI h668 a0 (x4_23 + (3 : Int))) _ _ hA hw) tw1033 tw1034 tw1035 tw10 tw1036 ⟨rfl, rfl⟩ ⟨rfl, by decide, by decide, pd_X7_at⟩ ⟨Nat.le_of_ble_eq_true rfl, Nat.le_of_ble_eq_true rfl⟩ ⟨(by show _ ≤ (601024 : Nat); omega), (by show _ ≤ (7293034 : Nat); omega)⟩ (Nat.le_of_ble_eq_true rfl) dL_law_692 rfl hp9 (fun v9 h692 hq9 => ?_)
        obtain ⟨r692, rfl, hw⟩ := hq9
        refine aw_istore (pc := 695) C dL_law_695 (by rw [hml]; decide) ?_
        refine aw_aload_n (pc := 697) C dL_law_697 rfl rfl ?_
        obtain ⟨hp9, hw⟩ := hw
        refine aw_callV (pc := 698) (as := []) C ci7 (fun As hA => met_X7_thrown G l As x2_15 _ _ hA hw) tw856 tw857 tw858 tw10 tw859 ⟨rfl, rfl⟩ ⟨rfl, by decide, by decide, pd_X7_thrown⟩ ⟨Nat.le_of_ble_eq_true rfl, Nat.le_of_ble_eq_true rfl⟩ ⟨(by show _ ≤ (601024 : Nat); omega), (by show _ ≤ (7293034 : Nat); omega)⟩ (Nat.le_of_ble_eq_true rfl) dL_law_698 rfl hp9 (fun v9 h698 hq9 => ?_)
        obtain ⟨r698, rfl, hw⟩ := hq9
        refine aw_iload (pc := 701) C dL_law_701 rfl ?_
        refine aw_icmp_eq (pc := 703) (tgt := 708) C dL_law_703 (by decide) (fun hc9 => ?_) (fun hc9 => ?_)
        · have hw := hw.1 hc9
          refine aw_iload (pc := 708) C dL_law_708 rfl ?_
          obtain ⟨k_725, hk_725, hw⟩ := jn_out hw
          have J_725 : ∀  (h_725 : AH) (bc8 bs8 : Nat), k_725  h_725 → bc8 ≤ bc9 + 1 → bs8 ≤ bs9 + 6 → AW G p l e room_1 s m #[Value.ref b0] below meth c bc8 bs8 (lw_Z below #[Value.ref b0] s0) 725 (eOf [(0, vR a0), (1, vR x1_7), (2, vR x2_15), (3, vR x3_19), (4, vI x4_23)]) [] h_725 := by
            intro  h_725 bc8 bs8 hw hb8 hs8
            rw [hk_725] at hw
            refine aw_goto (pc := 725) (tgt := 1124) C dL_law_725 (by decide) ?_
            refine aw_sub [(0, vR a0), (1, vR x1_7), (2, vR x2_15), (3, vR x3_19), (4, vI x4_23)] ⟨rfl, rfl, rfl, rfl, rfl, trivial⟩ ?_
            exact J_1124  _ _ _ hw (by omega) (by omega)
          refine aw_if_ne (pc := 710) (tgt := 725) C dL_law_710 (by decide) (fun hc9 => ?_) (fun hc9 => ?_)
          · have hw := hw.1 hc9
            refine aw_sub [(0, vR a0), (1, vR x1_7), (2, vR x2_15), (3, vR x3_19), (4, vI x4_23)] ⟨rfl, rfl, rfl, rfl, rfl, trivial⟩ ?_
            exact J_725  _ _ _ hw (by omega) (by omega)
          · have hw := hw.2 hc9
            refine aw_aload_n (pc := 713) C dL_law_713 rfl rfl ?_
            refine aw_iconst (pc := 714) C dL_law_714 (i := (0 : Int)) (by decide) ?_
            obtain ⟨⟨k9, hp9⟩, hw⟩ := hw
            refine aw_lald (pc := 715) C dL_law_715 hp9 ?_
            refine aw_iload (pc := 716) C dL_law_716 rfl ?_
            refine aw_i2l (pc := 718) C dL_law_718  ?_
            refine aw_lcmp (pc := 719) C dL_law_719  ?_
            refine aw_if_eq (pc := 720) (tgt := 725) C dL_law_720 (by decide) (fun hc9 => ?_) (fun hc9 => ?_)
            · have hw := hw.1 hc9
              refine aw_sub [(0, vR a0), (1, vR x1_7), (2, vR x2_15), (3, vR x3_19), (4, vI x4_23)] ⟨rfl, rfl, rfl, rfl, rfl, trivial⟩ ?_
              exact J_725  _ _ _ hw (by omega) (by omega)
            · have hw := hw.2 hc9
              refine aw_iconst (pc := 723) C dL_law_723 (i := (0 : Int)) (by decide) ?_
              exact aw_lawret (pc := 724) hs0 hd0 hH0 C hr dL_law_724 (by omega) (by omega) (hQ _ _ hw)
        · have hw := hw.2 hc9
          refine aw_iconst (pc := 706) C dL_law_706 (i := (0 : Int)) (by decide) ?_
          exact aw_lawret (pc := 707) hs0 hd0 hH0 C hr dL_law_707 (by omega) (by omega) (hQ _ _ hw)
      · have hw := hw.2.2.2.2.2.2.2.2.2.2.2.2.1 hc9
        refine aw_tableIn (pc := 39) (off := 689) (tgt := 728) C dL_law_39 (by omega) (by omega) (by rw [hc9]; rfl) (by decide) ?_
        refine aw_aload_n (pc := 728) C dL_law_728 rfl rfl ?_
        refine aw_aload_n (pc := 729) C dL_law_729 rfl rfl ?_
        refine aw_iload (pc := 730) C dL_law_730 rfl ?_
        refine aw_iconst (pc := 732) C dL_law_732 (i := (1 : Int)) (by decide) ?_
        obtain ⟨hp9, hw⟩ := hw
        refine aw_iadd (pc := 733) C dL_law_733 hp9 ?_
        obtain ⟨⟨k9, hp9⟩, hw⟩ := hw
        refine aw_iald (pc := 734) C dL_law_734 hp9 ?_
        refine aw_aload_n (pc := 735) C dL_law_735 rfl rfl ?_
        refine aw_iload (pc := 736) C dL_law_736 rfl ?_
        refine aw_iconst (pc := 738) C dL_law_738 (i := (2 : Int)) (by decide) ?_
        obtain ⟨hp9, hw⟩ := hw
        refine aw_iadd (pc := 739) C dL_law_739 hp9 ?_
        obtain ⟨⟨k9, hp9⟩, hw⟩ := hw
        refine aw_iald (pc := 740) C dL_law_740 hp9 ?_
        refine aw_aload_n (pc := 741) C dL_law_741 rfl rfl ?_
        refine aw_callSW (pc := 742) (as := [vR x1_7, vI (haI h_23 a0 (x4_23 + (1 : Int))), vI (haI h_23 a0 (x4_23 + (2 : Int))), vR x3_19]) C (fun As hA => met_L_place G l hst As x1_7 (haI h_23 a0 (x4_23 + (1 : Int))) (haI h_23 a0 (x4_23 + (2 : Int))) x3_19 _ _ hA hw) tw742 tw743 tw0 tw744 ⟨rfl, rfl⟩ ⟨by decide, by decide, pd_L_place⟩ ⟨Nat.le_of_ble_eq_true rfl, Nat.le_of_ble_eq_true rfl⟩ ⟨(by show _ ≤ (601024 : Nat); omega), (by show _ ≤ (7293034 : Nat); omega)⟩ (Nat.le_of_ble_eq_true rfl) dL_law_742 rfl (fun v9 h742 hq9 => ?_)
        obtain ⟨r742, rfl, hw⟩ := hq9
        refine aw_istore (pc := 745) C dL_law_745 (by rw [hml]; decide) ?_
        refine aw_aload_n (pc := 747) C dL_law_747 rfl rfl ?_
        refine aw_aload_n (pc := 748) C dL_law_748 rfl rfl ?_
        refine aw_iload (pc := 749) C dL_law_749 rfl ?_
        refine aw_iconst (pc := 751) C dL_law_751 (i := (1 : Int)) (by decide) ?_
        obtain ⟨hp9, hw⟩ := hw
        refine aw_iadd (pc := 752) C dL_law_752 hp9 ?_
        obtain ⟨⟨k9, hp9⟩, hw⟩ := hw
        refine aw_iald (pc := 753) C dL_law_753 hp9 ?_
        refine aw_aload_n (pc := 754) C dL_law_754 rfl rfl ?_
        refine aw_iload (pc := 755) C dL_law_755 rfl ?_
        refine aw_iconst (pc := 757) C dL_law_757 (i := (2 : Int)) (by decide) ?_
        obtain ⟨hp9, hw⟩ := hw
        refine aw_iadd (pc := 758) C dL_law_758 hp9 ?_
        obtain ⟨⟨k9, hp9⟩, hw⟩ := hw
        refine aw_iald (pc := 759) C dL_law_759 hp9 ?_
        obtain ⟨hp9, hw⟩ := hw
        refine aw_callV (pc := 760) (as := [vI (haI h742 a0 (x4_23 + (1 : Int))), vI (haI h742 a0 (x4_23 + (2 : Int)))]) C ci7 (fun As hA => met_X7_place G l As x2_15 (haI h742 a0 (x4_23 + (1 : Int))) (haI h742 a0 (x4_23 + (2 : Int))) _ _ hA hw) tw1053 tw1054 tw1055 tw10 tw1056 ⟨rfl, rfl⟩ ⟨rfl, by decide, by decide, pd_X7_place⟩ ⟨Nat.le_of_ble_eq_true rfl, Nat.le_of_ble_eq_true rfl⟩ ⟨(by show _ ≤ (601024 : Nat); omega), (by show _ ≤ (7293034 : Nat); omega)⟩ (Nat.le_of_ble_eq_true rfl) dL_law_760 rfl hp9 (fun v9 h760 hq9 => ?_)
        obtain ⟨r760, rfl, hw⟩ := hq9
        refine aw_istore (pc := 763) C dL_law_763 (by rw [hml]; decide) ?_
        refine aw_aload_n (pc := 765) C dL_law_765 rfl rfl ?_
        obtain ⟨hp9, hw⟩ := hw
        refine aw_callV (pc := 766) (as := []) C ci7 (fun As hA => met_X7_thrown G l As x2_15 _ _ hA hw) tw856 tw857 tw858 tw10 tw859 ⟨rfl, rfl⟩ ⟨rfl, by decide, by decide, pd_X7_thrown⟩ ⟨Nat.le_of_ble_eq_true rfl, Nat.le_of_ble_eq_true rfl⟩ ⟨(by show _ ≤ (601024 : Nat); omega), (by show _ ≤ (7293034 : Nat); omega)⟩ (Nat.le_of_ble_eq_true rfl) dL_law_766 rfl hp9 (fun v9 h766 hq9 => ?_)
        obtain ⟨r766, rfl, hw⟩ := hq9
        refine aw_iload (pc := 769) C dL_law_769 rfl ?_
        refine aw_icmp_eq (pc := 771) (tgt := 776) C dL_law_771 (by decide) (fun hc9 => ?_) (fun hc9 => ?_)
        · have hw := hw.1 hc9
          refine aw_iload (pc := 776) C dL_law_776 rfl ?_
          obtain ⟨k_793, hk_793, hw⟩ := jn_out hw
          have J_793 : ∀  (h_793 : AH) (bc8 bs8 : Nat), k_793  h_793 → bc8 ≤ bc9 + 1 → bs8 ≤ bs9 + 6 → AW G p l e room_1 s m #[Value.ref b0] below meth c bc8 bs8 (lw_Z below #[Value.ref b0] s0) 793 (eOf [(0, vR a0), (1, vR x1_7), (2, vR x2_15), (3, vR x3_19), (4, vI x4_23)]) [] h_793 := by
            intro  h_793 bc8 bs8 hw hb8 hs8
            rw [hk_793] at hw
            refine aw_goto (pc := 793) (tgt := 1124) C dL_law_793 (by decide) ?_
            refine aw_sub [(0, vR a0), (1, vR x1_7), (2, vR x2_15), (3, vR x3_19), (4, vI x4_23)] ⟨rfl, rfl, rfl, rfl, rfl, trivial⟩ ?_
            exact J_1124  _ _ _ hw (by omega) (by omega)
          refine aw_if_ne (pc := 778) (tgt := 793) C dL_law_778 (by decide) (fun hc9 => ?_) (fun hc9 => ?_)
          · have hw := hw.1 hc9
            refine aw_sub [(0, vR a0), (1, vR x1_7), (2, vR x2_15), (3, vR x3_19), (4, vI x4_23)] ⟨rfl, rfl, rfl, rfl, rfl, trivial⟩ ?_
            exact J_793  _ _ _ hw (by omega) (by omega)
          · have hw := hw.2 hc9
            refine aw_aload_n (pc := 781) C dL_law_781 rfl rfl ?_
            refine aw_iconst (pc := 782) C dL_law_782 (i := (0 : Int)) (by decide) ?_
            obtain ⟨⟨k9, hp9⟩, hw⟩ := hw
            refine aw_lald (pc := 783) C dL_law_783 hp9 ?_
            refine aw_iload (pc := 784) C dL_law_784 rfl ?_
            refine aw_i2l (pc := 786) C dL_law_786  ?_
            refine aw_lcmp (pc := 787) C dL_law_787  ?_
            refine aw_if_eq (pc := 788) (tgt := 793) C dL_law_788 (by decide) (fun hc9 => ?_) (fun hc9 => ?_)
            · have hw := hw.1 hc9
              refine aw_sub [(0, vR a0), (1, vR x1_7), (2, vR x2_15), (3, vR x3_19), (4, vI x4_23)] ⟨rfl, rfl, rfl, rfl, rfl, trivial⟩ ?_
              exact J_793  _ _ _ hw (by omega) (by omega)
            · have hw := hw.2 hc9
              refine aw_iconst (pc := 791) C dL_law_791 (i := (0 : Int)) (by decide) ?_
              exact aw_lawret (pc := 792) hs0 hd0 hH0 C hr dL_law_792 (by omega) (by omega) (hQ _ _ hw)
        · have hw := hw.2 hc9
          refine aw_iconst (pc := 774) C dL_law_774 (i := (0 : Int)) (by decide) ?_
          exact aw_lawret (pc := 775) hs0 hd0 hH0 C hr dL_law_775 (by omega) (by omega) (hQ _ _ hw)
      · have hw := hw.2.2.2.2.2.2.2.2.2.2.2.2.2.1 hc9
        refine aw_tableIn (pc := 39) (off := 757) (tgt := 796) C dL_law_39 (by omega) (by omega) (by rw [hc9]; rfl) (by decide) ?_
        refine aw_aload_n (pc := 796) C dL_law_796 rfl rfl ?_
        refine aw_aload_n (pc := 797) C dL_law_797 rfl rfl ?_
        refine aw_iload (pc := 798) C dL_law_798 rfl ?_
        refine aw_iconst (pc := 800) C dL_law_800 (i := (1 : Int)) (by decide) ?_
        obtain ⟨hp9, hw⟩ := hw
        refine aw_iadd (pc := 801) C dL_law_801 hp9 ?_
        obtain ⟨⟨k9, hp9⟩, hw⟩ := hw
        refine aw_iald (pc := 802) C dL_law_802 hp9 ?_
        refine aw_aload_n (pc := 803) C dL_law_803 rfl rfl ?_
        refine aw_iload (pc := 804) C dL_law_804 rfl ?_
        refine aw_iconst (pc := 806) C dL_law_806 (i := (2 : Int)) (by decide) ?_
        obtain ⟨hp9, hw⟩ := hw
        refine aw_iadd (pc := 807) C dL_law_807 hp9 ?_
        obtain ⟨⟨k9, hp9⟩, hw⟩ := hw
        refine aw_iald (pc := 808) C dL_law_808 hp9 ?_
        refine aw_aload_n (pc := 809) C dL_law_809 rfl rfl ?_
        refine aw_callSW (pc := 810) (as := [vR x1_7, vI (haI h_23 a0 (x4_23 + (1 : Int))), vI (haI h_23 a0 (x4_23 + (2 : Int))), vR x3_19]) C (fun As hA => met_L_frame G l hst As x1_7 (haI h_23 a0 (x4_23 + (1 : Int))) (haI h_23 a0 (x4_23 + (2 : Int))) x3_19 _ _ hA hw) tw751 tw752 tw0 tw753 ⟨rfl, rfl⟩ ⟨by decide, by decide, pd_L_frame⟩ ⟨Nat.le_of_ble_eq_true rfl, Nat.le_of_ble_eq_true rfl⟩ ⟨(by show _ ≤ (601024 : Nat); omega), (by show _ ≤ (7293034 : Nat); omega)⟩ (Nat.le_of_ble_eq_true rfl) dL_law_810 rfl (fun v9 h810 hq9 => ?_)
        obtain ⟨r810, rfl, hw⟩ := hq9
        refine aw_istore (pc := 813) C dL_law_813 (by rw [hml]; decide) ?_
        refine aw_aload_n (pc := 815) C dL_law_815 rfl rfl ?_
        refine aw_aload_n (pc := 816) C dL_law_816 rfl rfl ?_
        refine aw_iload (pc := 817) C dL_law_817 rfl ?_
        refine aw_iconst (pc := 819) C dL_law_819 (i := (1 : Int)) (by decide) ?_
        obtain ⟨hp9, hw⟩ := hw
        refine aw_iadd (pc := 820) C dL_law_820 hp9 ?_
        obtain ⟨⟨k9, hp9⟩, hw⟩ := hw
        refine aw_iald (pc := 821) C dL_law_821 hp9 ?_
        refine aw_aload_n (pc := 822) C dL_law_822 rfl rfl ?_
        refine aw_iload (pc := 823) C dL_law_823 rfl ?_
        refine aw_iconst (pc := 825) C dL_law_825 (i := (2 : Int)) (by decide) ?_
        obtain ⟨hp9, hw⟩ := hw
        refine aw_iadd (pc := 826) C dL_law_826 hp9 ?_
        obtain ⟨⟨k9, hp9⟩, hw⟩ := hw
        refine aw_iald (pc := 827) C dL_law_827 hp9 ?_
        obtain ⟨hp9, hw⟩ := hw
        refine aw_callV (pc := 828) (as := [vI (haI h810 a0 (x4_23 + (1 : Int))), vI (haI h810 a0 (x4_23 + (2 : Int)))]) C ci7 (fun As hA => met_X7_frame G l As x2_15 (haI h810 a0 (x4_23 + (1 : Int))) (haI h810 a0 (x4_23 + (2 : Int))) _ _ hA hw) tw1057 tw1058 tw1059 tw10 tw1060 ⟨rfl, rfl⟩ ⟨rfl, by decide, by decide, pd_X7_frame⟩ ⟨Nat.le_of_ble_eq_true rfl, Nat.le_of_ble_eq_true rfl⟩ ⟨(by show _ ≤ (601024 : Nat); omega), (by show _ ≤ (7293034 : Nat); omega)⟩ (Nat.le_of_ble_eq_true rfl) dL_law_828 rfl hp9 (fun v9 h828 hq9 => ?_)
        obtain ⟨r828, rfl, hw⟩ := hq9
        refine aw_istore (pc := 831) C dL_law_831 (by rw [hml]; decide) ?_
        refine aw_aload_n (pc := 833) C dL_law_833 rfl rfl ?_
        obtain ⟨hp9, hw⟩ := hw
        refine aw_callV (pc := 834) (as := []) C ci7 (fun As hA => met_X7_thrown G l As x2_15 _ _ hA hw) tw856 tw857 tw858 tw10 tw859 ⟨rfl, rfl⟩ ⟨rfl, by decide, by decide, pd_X7_thrown⟩ ⟨Nat.le_of_ble_eq_true rfl, Nat.le_of_ble_eq_true rfl⟩ ⟨(by show _ ≤ (601024 : Nat); omega), (by show _ ≤ (7293034 : Nat); omega)⟩ (Nat.le_of_ble_eq_true rfl) dL_law_834 rfl hp9 (fun v9 h834 hq9 => ?_)
        obtain ⟨r834, rfl, hw⟩ := hq9
        refine aw_iload (pc := 837) C dL_law_837 rfl ?_
        refine aw_icmp_eq (pc := 839) (tgt := 844) C dL_law_839 (by decide) (fun hc9 => ?_) (fun hc9 => ?_)
        · have hw := hw.1 hc9
          refine aw_iload (pc := 844) C dL_law_844 rfl ?_
          obtain ⟨k_861, hk_861, hw⟩ := jn_out hw
          have J_861 : ∀  (h_861 : AH) (bc8 bs8 : Nat), k_861  h_861 → bc8 ≤ bc9 + 1 → bs8 ≤ bs9 + 6 → AW G p l e room_1 s m #[Value.ref b0] below meth c bc8 bs8 (lw_Z below #[Value.ref b0] s0) 861 (eOf [(0, vR a0), (1, vR x1_7), (2, vR x2_15), (3, vR x3_19), (4, vI x4_23)]) [] h_861 := by
            intro  h_861 bc8 bs8 hw hb8 hs8
            rw [hk_861] at hw
            refine aw_goto (pc := 861) (tgt := 1124) C dL_law_861 (by decide) ?_
            refine aw_sub [(0, vR a0), (1, vR x1_7), (2, vR x2_15), (3, vR x3_19), (4, vI x4_23)] ⟨rfl, rfl, rfl, rfl, rfl, trivial⟩ ?_
            exact J_1124  _ _ _ hw (by omega) (by omega)
          refine aw_if_ne (pc := 846) (tgt := 861) C dL_law_846 (by decide) (fun hc9 => ?_) (fun hc9 => ?_)
          · have hw := hw.1 hc9
            refine aw_sub [(0, vR a0), (1, vR x1_7), (2, vR x2_15), (3, vR x3_19), (4, vI x4_23)] ⟨rfl, rfl, rfl, rfl, rfl, trivial⟩ ?_
            exact J_861  _ _ _ hw (by omega) (by omega)
          · have hw := hw.2 hc9
            refine aw_aload_n (pc := 849) C dL_law_849 rfl rfl ?_
            refine aw_iconst (pc := 850) C dL_law_850 (i := (0 : Int)) (by decide) ?_
            obtain ⟨⟨k9, hp9⟩, hw⟩ := hw
            refine aw_lald (pc := 851) C dL_law_851 hp9 ?_
            refine aw_iload (pc := 852) C dL_law_852 rfl ?_
            refine aw_i2l (pc := 854) C dL_law_854  ?_
            refine aw_lcmp (pc := 855) C dL_law_855  ?_
            refine aw_if_eq (pc := 856) (tgt := 861) C dL_law_856 (by decide) (fun hc9 => ?_) (fun hc9 => ?_)
            · have hw := hw.1 hc9
              refine aw_sub [(0, vR a0), (1, vR x1_7), (2, vR x2_15), (3, vR x3_19), (4, vI x4_23)] ⟨rfl, rfl, rfl, rfl, rfl, trivial⟩ ?_
              exact J_861  _ _ _ hw (by omega) (by omega)
            · have hw := hw.2 hc9
              refine aw_iconst (pc := 859) C dL_law_859 (i := (0 : Int)) (by decide) ?_
              exact aw_lawret (pc := 860) hs0 hd0 hH0 C hr dL_law_860 (by omega) (by omega) (hQ _ _ hw)
        · have hw := hw.2 hc9
          refine aw_iconst (pc := 842) C dL_law_842 (i := (0 : Int)) (by decide) ?_
          exact aw_lawret (pc := 843) hs0 hd0 hH0 C hr dL_law_843 (by omega) (by omega) (hQ _ _ hw)
      · have hw := hw.2.2.2.2.2.2.2.2.2.2.2.2.2.2.1 hc9
        refine aw_tableIn (pc := 39) (off := 825) (tgt := 864) C dL_law_39 (by omega) (by omega) (by rw [hc9]; rfl) (by decide) ?_
        refine aw_aload_n (pc := 864) C dL_law_864 rfl rfl ?_
        refine aw_aload_n (pc := 865) C dL_law_865 rfl rfl ?_
        refine aw_iload (pc := 866) C dL_law_866 rfl ?_
        refine aw_iconst (pc := 868) C dL_law_868 (i := (1 : Int)) (by decide) ?_
        obtain ⟨hp9, hw⟩ := hw
        refine aw_iadd (pc := 869) C dL_law_869 hp9 ?_
        obtain ⟨⟨k9, hp9⟩, hw⟩ := hw
        refine aw_iald (pc := 870) C dL_law_870 hp9 ?_
        refine aw_aload_n (pc := 871) C dL_law_871 rfl rfl ?_
        refine aw_callSW (pc := 872) (as := [vR x1_7, vI (haI h_23 a0 (x4_23 + (1 : Int))), vR x3_19]) C (fun As hA => met_L_count G l hst As x1_7 (haI h_23 a0 (x4_23 + (1 : Int))) x3_19 _ _ hA hw) tw759 tw760 tw0 tw761 ⟨rfl, rfl⟩ ⟨by decide, by decide, pd_L_count⟩ ⟨Nat.le_of_ble_eq_true rfl, Nat.le_of_ble_eq_true rfl⟩ ⟨(by show _ ≤ (601024 : Nat); omega), (by show _ ≤ (7293034 : Nat); omega)⟩ (Nat.le_of_ble_eq_true rfl) dL_law_872 rfl (fun v9 h872 hq9 => ?_)
        obtain ⟨r872, rfl, hw⟩ := hq9
        refine aw_istore (pc := 875) C dL_law_875 (by rw [hml]; decide) ?_
        refine aw_aload_n (pc := 877) C dL_law_877 rfl rfl ?_
        refine aw_aload_n (pc := 878) C dL_law_878 rfl rfl ?_
        refine aw_iload (pc := 879) C dL_law_879 rfl ?_
        refine aw_iconst (pc := 881) C dL_law_881 (i := (1 : Int)) (by decide) ?_
        obtain ⟨hp9, hw⟩ := hw
        refine aw_iadd (pc := 882) C dL_law_882 hp9 ?_
        obtain ⟨⟨k9, hp9⟩, hw⟩ := hw
        refine aw_iald (pc := 883) C dL_law_883 hp9 ?_
        obtain ⟨hp9, hw⟩ := hw
        refine aw_callV (pc := 884) (as := [vI (haI h872 a0 (x4_23 + (1 : Int)))]) C ci7 (fun As hA => met_X7_count G l As x2_15 (haI h872 a0 (x4_23 + (1 : Int))) _ _ hA hw) tw1069 tw1070 tw1071 tw10 tw1072 ⟨rfl, rfl⟩ ⟨rfl, by decide, by decide, pd_X7_count⟩ ⟨Nat.le_of_ble_eq_true rfl, Nat.le_of_ble_eq_true rfl⟩ ⟨(by show _ ≤ (601024 : Nat); omega), (by show _ ≤ (7293034 : Nat); omega)⟩ (Nat.le_of_ble_eq_true rfl) dL_law_884 rfl hp9 (fun v9 h884 hq9 => ?_)
        obtain ⟨r884, rfl, hw⟩ := hq9
        refine aw_istore (pc := 887) C dL_law_887 (by rw [hml]; decide) ?_
        refine aw_aload_n (pc := 889) C dL_law_889 rfl rfl ?_
        obtain ⟨hp9, hw⟩ := hw
        refine aw_callV (pc := 890) (as := []) C ci7 (fun As hA => met_X7_thrown G l As x2_15 _ _ hA hw) tw856 tw857 tw858 tw10 tw859 ⟨rfl, rfl⟩ ⟨rfl, by decide, by decide, pd_X7_thrown⟩ ⟨Nat.le_of_ble_eq_true rfl, Nat.le_of_ble_eq_true rfl⟩ ⟨(by show _ ≤ (601024 : Nat); omega), (by show _ ≤ (7293034 : Nat); omega)⟩ (Nat.le_of_ble_eq_true rfl) dL_law_890 rfl hp9 (fun v9 h890 hq9 => ?_)
        obtain ⟨r890, rfl, hw⟩ := hq9
        refine aw_iload (pc := 893) C dL_law_893 rfl ?_
        refine aw_icmp_eq (pc := 895) (tgt := 900) C dL_law_895 (by decide) (fun hc9 => ?_) (fun hc9 => ?_)
        · have hw := hw.1 hc9
          refine aw_iload (pc := 900) C dL_law_900 rfl ?_
          obtain ⟨k_917, hk_917, hw⟩ := jn_out hw
          have J_917 : ∀  (h_917 : AH) (bc8 bs8 : Nat), k_917  h_917 → bc8 ≤ bc9 + 1 → bs8 ≤ bs9 + 6 → AW G p l e room_1 s m #[Value.ref b0] below meth c bc8 bs8 (lw_Z below #[Value.ref b0] s0) 917 (eOf [(0, vR a0), (1, vR x1_7), (2, vR x2_15), (3, vR x3_19), (4, vI x4_23)]) [] h_917 := by
            intro  h_917 bc8 bs8 hw hb8 hs8
            rw [hk_917] at hw
            refine aw_goto (pc := 917) (tgt := 1124) C dL_law_917 (by decide) ?_
            refine aw_sub [(0, vR a0), (1, vR x1_7), (2, vR x2_15), (3, vR x3_19), (4, vI x4_23)] ⟨rfl, rfl, rfl, rfl, rfl, trivial⟩ ?_
            exact J_1124  _ _ _ hw (by omega) (by omega)
          refine aw_if_ne (pc := 902) (tgt := 917) C dL_law_902 (by decide) (fun hc9 => ?_) (fun hc9 => ?_)
          · have hw := hw.1 hc9
            refine aw_sub [(0, vR a0), (1, vR x1_7), (2, vR x2_15), (3, vR x3_19), (4, vI x4_23)] ⟨rfl, rfl, rfl, rfl, rfl, trivial⟩ ?_
            exact J_917  _ _ _ hw (by omega) (by omega)
          · have hw := hw.2 hc9
            refine aw_aload_n (pc := 905) C dL_law_905 rfl rfl ?_
            refine aw_iconst (pc := 906) C dL_law_906 (i := (0 : Int)) (by decide) ?_
            obtain ⟨⟨k9, hp9⟩, hw⟩ := hw
            refine aw_lald (pc := 907) C dL_law_907 hp9 ?_
            refine aw_iload (pc := 908) C dL_law_908 rfl ?_
            refine aw_i2l (pc := 910) C dL_law_910  ?_
            refine aw_lcmp (pc := 911) C dL_law_911  ?_
            refine aw_if_eq (pc := 912) (tgt := 917) C dL_law_912 (by decide) (fun hc9 => ?_) (fun hc9 => ?_)
            · have hw := hw.1 hc9
              refine aw_sub [(0, vR a0), (1, vR x1_7), (2, vR x2_15), (3, vR x3_19), (4, vI x4_23)] ⟨rfl, rfl, rfl, rfl, rfl, trivial⟩ ?_
              exact J_917  _ _ _ hw (by omega) (by omega)
            · have hw := hw.2 hc9
              refine aw_iconst (pc := 915) C dL_law_915 (i := (0 : Int)) (by decide) ?_
              exact aw_lawret (pc := 916) hs0 hd0 hH0 C hr dL_law_916 (by omega) (by omega) (hQ _ _ hw)
        · have hw := hw.2 hc9
          refine aw_iconst (pc := 898) C dL_law_898 (i := (0 : Int)) (by decide) ?_
          exact aw_lawret (pc := 899) hs0 hd0 hH0 C hr dL_law_899 (by omega) (by omega) (hQ _ _ hw)
      · have hw := hw.2.2.2.2.2.2.2.2.2.2.2.2.2.2.2.1 hc9
        refine aw_tableIn (pc := 39) (off := 881) (tgt := 920) C dL_law_39 (by omega) (by omega) (by rw [hc9]; rfl) (by decide) ?_
        refine aw_aload_n (pc := 920) C dL_law_920 rfl rfl ?_
        refine aw_aload_n (pc := 921) C dL_law_921 rfl rfl ?_
        refine aw_iload (pc := 922) C dL_law_922 rfl ?_
        refine aw_iconst (pc := 924) C dL_law_924 (i := (1 : Int)) (by decide) ?_
        obtain ⟨hp9, hw⟩ := hw
        refine aw_iadd (pc := 925) C dL_law_925 hp9 ?_
        obtain ⟨⟨k9, hp9⟩, hw⟩ := hw
        refine aw_iald (pc := 926) C dL_law_926 hp9 ?_
        refine aw_aload_n (pc := 927) C dL_law_927 rfl rfl ?_
        refine aw_callSW (pc := 928) (as := [vR x1_7, vI (haI h_23 a0 (x4_23 + (1 : Int))), vR x3_19]) C (fun As hA => met_L_setting G l hst As x1_7 (haI h_23 a0 (x4_23 + (1 : Int))) x3_19 _ _ hA hw) tw767 tw768 tw0 tw769 ⟨rfl, rfl⟩ ⟨by decide, by decide, pd_L_setting⟩ ⟨Nat.le_of_ble_eq_true rfl, Nat.le_of_ble_eq_true rfl⟩ ⟨(by show _ ≤ (601024 : Nat); omega), (by show _ ≤ (7293034 : Nat); omega)⟩ (Nat.le_of_ble_eq_true rfl) dL_law_928 rfl (fun v9 h928 hq9 => ?_)
        obtain ⟨r928, rfl, hw⟩ := hq9
        refine aw_istore (pc := 931) C dL_law_931 (by rw [hml]; decide) ?_
        refine aw_aload_n (pc := 933) C dL_law_933 rfl rfl ?_
        refine aw_aload_n (pc := 934) C dL_law_934 rfl rfl ?_
        refine aw_iload (pc := 935) C dL_law_935 rfl ?_
        refine aw_iconst (pc := 937) C dL_law_937 (i := (1 : Int)) (by decide) ?_
        obtain ⟨hp9, hw⟩ := hw
        refine aw_iadd (pc := 938) C dL_law_938 hp9 ?_
        obtain ⟨⟨k9, hp9⟩, hw⟩ := hw
        refine aw_iald (pc := 939) C dL_law_939 hp9 ?_
        obtain ⟨hp9, hw⟩ := hw
        refine aw_callV (pc := 940) (as := [vI (haI h928 a0 (x4_23 + (1 : Int)))]) C ci7 (fun As hA => met_X7_setting G l As x2_15 (haI h928 a0 (x4_23 + (1 : Int))) _ _ hA hw) tw1081 tw1082 tw1083 tw10 tw1084 ⟨rfl, rfl⟩ ⟨rfl, by decide, by decide, pd_X7_setting⟩ ⟨Nat.le_of_ble_eq_true rfl, Nat.le_of_ble_eq_true rfl⟩ ⟨(by show _ ≤ (601024 : Nat); omega), (by show _ ≤ (7293034 : Nat); omega)⟩ (Nat.le_of_ble_eq_true rfl) dL_law_940 rfl hp9 (fun v9 h940 hq9 => ?_)
        obtain ⟨r940, rfl, hw⟩ := hq9
        refine aw_istore (pc := 943) C dL_law_943 (by rw [hml]; decide) ?_
        refine aw_aload_n (pc := 945) C dL_law_945 rfl rfl ?_
        obtain ⟨hp9, hw⟩ := hw
        refine aw_callV (pc := 946) (as := []) C ci7 (fun As hA => met_X7_thrown G l As x2_15 _ _ hA hw) tw856 tw857 tw858 tw10 tw859 ⟨rfl, rfl⟩ ⟨rfl, by decide, by decide, pd_X7_thrown⟩ ⟨Nat.le_of_ble_eq_true rfl, Nat.le_of_ble_eq_true rfl⟩ ⟨(by show _ ≤ (601024 : Nat); omega), (by show _ ≤ (7293034 : Nat); omega)⟩ (Nat.le_of_ble_eq_true rfl) dL_law_946 rfl hp9 (fun v9 h946 hq9 => ?_)
        obtain ⟨r946, rfl, hw⟩ := hq9
        refine aw_iload (pc := 949) C dL_law_949 rfl ?_
        refine aw_icmp_eq (pc := 951) (tgt := 956) C dL_law_951 (by decide) (fun hc9 => ?_) (fun hc9 => ?_)
        · have hw := hw.1 hc9
          refine aw_iload (pc := 956) C dL_law_956 rfl ?_
          obtain ⟨k_973, hk_973, hw⟩ := jn_out hw
          have J_973 : ∀  (h_973 : AH) (bc8 bs8 : Nat), k_973  h_973 → bc8 ≤ bc9 + 1 → bs8 ≤ bs9 + 6 → AW G p l e room_1 s m #[Value.ref b0] below meth c bc8 bs8 (lw_Z below #[Value.ref b0] s0) 973 (eOf [(0, vR a0), (1, vR x1_7), (2, vR x2_15), (3, vR x3_19), (4, vI x4_23)]) [] h_973 := by
            intro  h_973 bc8 bs8 hw hb8 hs8
            rw [hk_973] at hw
            refine aw_goto (pc := 973) (tgt := 1124) C dL_law_973 (by decide) ?_
            refine aw_sub [(0, vR a0), (1, vR x1_7), (2, vR x2_15), (3, vR x3_19), (4, vI x4_23)] ⟨rfl, rfl, rfl, rfl, rfl, trivial⟩ ?_
            exact J_1124  _ _ _ hw (by omega) (by omega)
          refine aw_if_ne (pc := 958) (tgt := 973) C dL_law_958 (by decide) (fun hc9 => ?_) (fun hc9 => ?_)
          · have hw := hw.1 hc9
            refine aw_sub [(0, vR a0), (1, vR x1_7), (2, vR x2_15), (3, vR x3_19), (4, vI x4_23)] ⟨rfl, rfl, rfl, rfl, rfl, trivial⟩ ?_
            exact J_973  _ _ _ hw (by omega) (by omega)
          · have hw := hw.2 hc9
            refine aw_aload_n (pc := 961) C dL_law_961 rfl rfl ?_
            refine aw_iconst (pc := 962) C dL_law_962 (i := (0 : Int)) (by decide) ?_
            obtain ⟨⟨k9, hp9⟩, hw⟩ := hw
            refine aw_lald (pc := 963) C dL_law_963 hp9 ?_
            refine aw_iload (pc := 964) C dL_law_964 rfl ?_
            refine aw_i2l (pc := 966) C dL_law_966  ?_
            refine aw_lcmp (pc := 967) C dL_law_967  ?_
            refine aw_if_eq (pc := 968) (tgt := 973) C dL_law_968 (by decide) (fun hc9 => ?_) (fun hc9 => ?_)
            · have hw := hw.1 hc9
              refine aw_sub [(0, vR a0), (1, vR x1_7), (2, vR x2_15), (3, vR x3_19), (4, vI x4_23)] ⟨rfl, rfl, rfl, rfl, rfl, trivial⟩ ?_
              exact J_973  _ _ _ hw (by omega) (by omega)
            · have hw := hw.2 hc9
              refine aw_iconst (pc := 971) C dL_law_971 (i := (0 : Int)) (by decide) ?_
              exact aw_lawret (pc := 972) hs0 hd0 hH0 C hr dL_law_972 (by omega) (by omega) (hQ _ _ hw)
        · have hw := hw.2 hc9
          refine aw_iconst (pc := 954) C dL_law_954 (i := (0 : Int)) (by decide) ?_
          exact aw_lawret (pc := 955) hs0 hd0 hH0 C hr dL_law_955 (by omega) (by omega) (hQ _ _ hw)
      · have hw := hw.2.2.2.2.2.2.2.2.2.2.2.2.2.2.2.2.1 hc9
        refine aw_tableIn (pc := 39) (off := 937) (tgt := 976) C dL_law_39 (by omega) (by omega) (by rw [hc9]; rfl) (by decide) ?_
        refine aw_aload_n (pc := 976) C dL_law_976 rfl rfl ?_
        refine aw_aload_n (pc := 977) C dL_law_977 rfl rfl ?_
        refine aw_iload (pc := 978) C dL_law_978 rfl ?_
        refine aw_iconst (pc := 980) C dL_law_980 (i := (1 : Int)) (by decide) ?_
        obtain ⟨hp9, hw⟩ := hw
        refine aw_iadd (pc := 981) C dL_law_981 hp9 ?_
        obtain ⟨⟨k9, hp9⟩, hw⟩ := hw
        refine aw_iald (pc := 982) C dL_law_982 hp9 ?_
        refine aw_aload_n (pc := 983) C dL_law_983 rfl rfl ?_
        refine aw_iload (pc := 984) C dL_law_984 rfl ?_
        refine aw_iconst (pc := 986) C dL_law_986 (i := (2 : Int)) (by decide) ?_
        obtain ⟨hp9, hw⟩ := hw
        refine aw_iadd (pc := 987) C dL_law_987 hp9 ?_
        obtain ⟨⟨k9, hp9⟩, hw⟩ := hw
        refine aw_iald (pc := 988) C dL_law_988 hp9 ?_
        refine aw_aload_n (pc := 989) C dL_law_989 rfl rfl ?_
        refine aw_iload (pc := 990) C dL_law_990 rfl ?_
        refine aw_iconst (pc := 992) C dL_law_992 (i := (3 : Int)) (by decide) ?_
        obtain ⟨hp9, hw⟩ := hw
        refine aw_iadd (pc := 993) C dL_law_993 hp9 ?_
        obtain ⟨⟨k9, hp9⟩, hw⟩ := hw
        refine aw_iald (pc := 994) C dL_law_994 hp9 ?_
        refine aw_aload_n (pc := 995) C dL_law_995 rfl rfl ?_
        refine aw_callSW (pc := 996) (as := [vR x1_7, vI (haI h_23 a0 (x4_23 + (1 : Int))), vI (haI h_23 a0 (x4_23 + (2 : Int))), vI (haI h_23 a0 (x4_23 + (3 : Int))), vR x3_19]) C (fun As hA => met_L_ifSet G l hst As x1_7 (haI h_23 a0 (x4_23 + (1 : Int))) (haI h_23 a0 (x4_23 + (2 : Int))) (haI h_23 a0 (x4_23 + (3 : Int))) x3_19 _ _ hA hw) tw774 tw775 tw0 tw776 ⟨rfl, rfl⟩ ⟨by decide, by decide, pd_L_ifSet⟩ ⟨Nat.le_of_ble_eq_true rfl, Nat.le_of_ble_eq_true rfl⟩ ⟨(by show _ ≤ (601024 : Nat); omega), (by show _ ≤ (7293034 : Nat); omega)⟩ (Nat.le_of_ble_eq_true rfl) dL_law_996 rfl (fun v9 h996 hq9 => ?_)
        obtain ⟨r996, rfl, hw⟩ := hq9
        refine aw_istore (pc := 999) C dL_law_999 (by rw [hml]; decide) ?_
        refine aw_aload_n (pc := 1001) C dL_law_1001 rfl rfl ?_
        refine aw_aload_n (pc := 1002) C dL_law_1002 rfl rfl ?_
        refine aw_iload (pc := 1003) C dL_law_1003 rfl ?_
        refine aw_iconst (pc := 1005) C dL_law_1005 (i := (1 : Int)) (by decide) ?_
        obtain ⟨hp9, hw⟩ := hw
        refine aw_iadd (pc := 1006) C dL_law_1006 hp9 ?_
        obtain ⟨⟨k9, hp9⟩, hw⟩ := hw
        refine aw_iald (pc := 1007) C dL_law_1007 hp9 ?_
        refine aw_aload_n (pc := 1008) C dL_law_1008 rfl rfl ?_
        refine aw_iload (pc := 1009) C dL_law_1009 rfl ?_
        refine aw_iconst (pc := 1011) C dL_law_1011 (i := (2 : Int)) (by decide) ?_
        obtain ⟨hp9, hw⟩ := hw
        refine aw_iadd (pc := 1012) C dL_law_1012 hp9 ?_
        obtain ⟨⟨k9, hp9⟩, hw⟩ := hw
        refine aw_iald (pc := 1013) C dL_law_1013 hp9 ?_
        refine aw_aload_n (pc := 1014) C dL_law_1014 rfl rfl ?_
        refine aw_iload (pc := 1015) C dL_law_1015 rfl ?_
        refine aw_iconst (pc := 1017) C dL_law_1017 (i := (3 : Int)) (by decide) ?_
        obtain ⟨hp9, hw⟩ := hw
        refine aw_iadd (pc := 1018) C dL_law_1018 hp9 ?_
        obtain ⟨⟨k9, hp9⟩, hw⟩ := hw
        refine aw_iald (pc := 1019) C dL_law_1019 hp9 ?_
        obtain ⟨hp9, hw⟩ := hw
        refine aw_callV (pc := 1020) (as := [vI (haI h996 a0 (x4_23 + (1 : Int))), vI (haI h996 a0 (x4_23 + (2 : Int))), vI (haI h996 a0 (x4_23 + (3 : Int)))]) C ci7 (fun As hA => met_X7_ifSet G l As x2_15 (haI h996 a0 (x4_23 + (1 : Int))) (haI h996 a0 (x4_23 + (2 : Int))) (haI h996 a0 (x4_23 + (3 : Int))) _ _ hA hw) tw1085 tw1086 tw1087 tw10 tw1088 ⟨rfl, rfl⟩ ⟨rfl, by decide, by decide, pd_X7_ifSet⟩ ⟨Nat.le_of_ble_eq_true rfl, Nat.le_of_ble_eq_true rfl⟩ ⟨(by show _ ≤ (601024 : Nat); omega), (by show _ ≤ (7293034 : Nat); omega)⟩ (Nat.le_of_ble_eq_true rfl) dL_law_1020 rfl hp9 (fun v9 h1020 hq9 => ?_)
        obtain ⟨r1020, rfl, hw⟩ := hq9
        refine aw_istore (pc := 1023) C dL_law_1023 (by rw [hml]; decide) ?_
        refine aw_aload_n (pc := 1025) C dL_law_1025 rfl rfl ?_
        obtain ⟨hp9, hw⟩ := hw
        refine aw_callV (pc := 1026) (as := []) C ci7 (fun As hA => met_X7_thrown G l As x2_15 _ _ hA hw) tw856 tw857 tw858 tw10 tw859 ⟨rfl, rfl⟩ ⟨rfl, by decide, by decide, pd_X7_thrown⟩ ⟨Nat.le_of_ble_eq_true rfl, Nat.le_of_ble_eq_true rfl⟩ ⟨(by show _ ≤ (601024 : Nat); omega), (by show _ ≤ (7293034 : Nat); omega)⟩ (Nat.le_of_ble_eq_true rfl) dL_law_1026 rfl hp9 (fun v9 h1026 hq9 => ?_)
        obtain ⟨r1026, rfl, hw⟩ := hq9
        refine aw_iload (pc := 1029) C dL_law_1029 rfl ?_
        refine aw_icmp_eq (pc := 1031) (tgt := 1036) C dL_law_1031 (by decide) (fun hc9 => ?_) (fun hc9 => ?_)
        · have hw := hw.1 hc9
          refine aw_iload (pc := 1036) C dL_law_1036 rfl ?_
          obtain ⟨k_1053, hk_1053, hw⟩ := jn_out hw
          have J_1053 : ∀  (h_1053 : AH) (bc8 bs8 : Nat), k_1053  h_1053 → bc8 ≤ bc9 + 1 → bs8 ≤ bs9 + 6 → AW G p l e room_1 s m #[Value.ref b0] below meth c bc8 bs8 (lw_Z below #[Value.ref b0] s0) 1053 (eOf [(0, vR a0), (1, vR x1_7), (2, vR x2_15), (3, vR x3_19), (4, vI x4_23)]) [] h_1053 := by
            intro  h_1053 bc8 bs8 hw hb8 hs8
            rw [hk_1053] at hw
            refine aw_goto (pc := 1053) (tgt := 1124) C dL_law_1053 (by decide) ?_
            refine aw_sub [(0, vR a0), (1, vR x1_7), (2, vR x2_15), (3, vR x3_19), (4, vI x4_23)] ⟨rfl, rfl, rfl, rfl, rfl, trivial⟩ ?_
            exact J_1124  _ _ _ hw (by omega) (by omega)
          refine aw_if_ne (pc := 1038) (tgt := 1053) C dL_law_1038 (by decide) (fun hc9 => ?_) (fun hc9 => ?_)
          · have hw := hw.1 hc9
            refine aw_sub [(0, vR a0), (1, vR x1_7), (2, vR x2_15), (3, vR x3_19), (4, vI x4_23)] ⟨rfl, rfl, rfl, rfl, rfl, trivial⟩ ?_
            exact J_1053  _ _ _ hw (by omega) (by omega)
          · have hw := hw.2 hc9
            refine aw_aload_n (pc := 1041) C dL_law_1041 rfl rfl ?_
            refine aw_iconst (pc := 1042) C dL_law_1042 (i := (0 : Int)) (by decide) ?_
            obtain ⟨⟨k9, hp9⟩, hw⟩ := hw
            refine aw_lald (pc := 1043) C dL_law_1043 hp9 ?_
            refine aw_iload (pc := 1044) C dL_law_1044 rfl ?_
            refine aw_i2l (pc := 1046) C dL_law_1046  ?_
            refine aw_lcmp (pc := 1047) C dL_law_1047  ?_
            refine aw_if_eq (pc := 1048) (tgt := 1053) C dL_law_1048 (by decide) (fun hc9 => ?_) (fun hc9 => ?_)
            · have hw := hw.1 hc9
              refine aw_sub [(0, vR a0), (1, vR x1_7), (2, vR x2_15), (3, vR x3_19), (4, vI x4_23)] ⟨rfl, rfl, rfl, rfl, rfl, trivial⟩ ?_
              exact J_1053  _ _ _ hw (by omega) (by omega)
            · have hw := hw.2 hc9
              refine aw_iconst (pc := 1051) C dL_law_1051 (i := (0 : Int)) (by decide) ?_
              exact aw_lawret (pc := 1052) hs0 hd0 hH0 C hr dL_law_1052 (by omega) (by omega) (hQ _ _ hw)
        · have hw := hw.2 hc9
          refine aw_iconst (pc := 1034) C dL_law_1034 (i := (0 : Int)) (by decide) ?_
          exact aw_lawret (pc := 1035) hs0 hd0 hH0 C hr dL_law_1035 (by omega) (by omega) (hQ _ _ hw)
      · have hw := hw.2.2.2.2.2.2.2.2.2.2.2.2.2.2.2.2.2.1 hc9
        refine aw_tableIn (pc := 39) (off := 1017) (tgt := 1056) C dL_law_39 (by omega) (by omega) (by rw [hc9]; rfl) (by decide) ?_
        refine aw_aload_n (pc := 1056) C dL_law_1056 rfl rfl ?_
        obtain ⟨hp9, hw⟩ := hw
        refine aw_callV (pc := 1057) (as := []) C ci6 (fun As hA => met_X6_best G l As x1_7 _ _ hA hw) tw402 tw403 tw404 tw1 tw405 ⟨rfl, rfl⟩ ⟨rfl, by decide, by decide, pd_X6_best⟩ ⟨Nat.le_of_ble_eq_true rfl, Nat.le_of_ble_eq_true rfl⟩ ⟨(by show _ ≤ (601024 : Nat); omega), (by show _ ≤ (7293034 : Nat); omega)⟩ (Nat.le_of_ble_eq_true rfl) dL_law_1057 rfl hp9 (fun v9 h1057 hq9 => ?_)
        obtain ⟨r1057, rfl, hw⟩ := hq9
        refine aw_aload_n (pc := 1060) C dL_law_1060 rfl rfl ?_
        obtain ⟨hp9, hw⟩ := hw
        refine aw_callV (pc := 1061) (as := []) C ci7 (fun As hA => met_X7_best G l As x2_15 _ _ hA hw) tw1093 tw1094 tw1095 tw10 tw1096 ⟨rfl, rfl⟩ ⟨rfl, by decide, by decide, pd_X7_best⟩ ⟨Nat.le_of_ble_eq_true rfl, Nat.le_of_ble_eq_true rfl⟩ ⟨(by show _ ≤ (601024 : Nat); omega), (by show _ ≤ (7293034 : Nat); omega)⟩ (Nat.le_of_ble_eq_true rfl) dL_law_1061 rfl hp9 (fun v9 h1061 hq9 => ?_)
        obtain ⟨r1061, rfl, hw⟩ := hq9
        refine aw_icmp_eq (pc := 1064) (tgt := 1124) C dL_law_1064 (by decide) (fun hc9 => ?_) (fun hc9 => ?_)
        · have hw := hw.1 hc9
          refine aw_sub [(0, vR a0), (1, vR x1_7), (2, vR x2_15), (3, vR x3_19), (4, vI x4_23)] ⟨rfl, rfl, rfl, rfl, rfl, trivial⟩ ?_
          exact J_1124  _ _ _ hw (by omega) (by omega)
        · have hw := hw.2 hc9
          refine aw_iconst (pc := 1067) C dL_law_1067 (i := (0 : Int)) (by decide) ?_
          exact aw_lawret (pc := 1068) hs0 hd0 hH0 C hr dL_law_1068 (by omega) (by omega) (hQ _ _ hw)
      · have hw := hw.2.2.2.2.2.2.2.2.2.2.2.2.2.2.2.2.2.2.1 hc9
        refine aw_tableIn (pc := 39) (off := 1030) (tgt := 1069) C dL_law_39 (by omega) (by omega) (by rw [hc9]; rfl) (by decide) ?_
        refine aw_aload_n (pc := 1069) C dL_law_1069 rfl rfl ?_
        obtain ⟨hp9, hw⟩ := hw
        refine aw_callV (pc := 1070) (as := []) C ci6 (fun As hA => met_X6_likeness G l As x1_7 _ _ hA hw) tw406 tw407 tw408 tw1 tw409 ⟨rfl, rfl⟩ ⟨rfl, by decide, by decide, pd_X6_likeness⟩ ⟨Nat.le_of_ble_eq_true rfl, Nat.le_of_ble_eq_true rfl⟩ ⟨(by show _ ≤ (601024 : Nat); omega), (by show _ ≤ (7293034 : Nat); omega)⟩ (Nat.le_of_ble_eq_true rfl) dL_law_1070 rfl hp9 (fun v9 h1070 hq9 => ?_)
        obtain ⟨r1070, rfl, hw⟩ := hq9
        refine aw_dstore (pc := 1073) C dL_law_1073 (by rw [hml]; decide) ?_
        refine aw_aload_n (pc := 1075) C dL_law_1075 rfl rfl ?_
        obtain ⟨hp9, hw⟩ := hw
        refine aw_callV (pc := 1076) (as := []) C ci7 (fun As hA => met_X7_likeness G l As x2_15 _ _ hA hw) tw1101 tw1102 tw1103 tw10 tw1104 ⟨rfl, rfl⟩ ⟨rfl, by decide, by decide, pd_X7_likeness⟩ ⟨Nat.le_of_ble_eq_true rfl, Nat.le_of_ble_eq_true rfl⟩ ⟨(by show _ ≤ (601024 : Nat); omega), (by show _ ≤ (7293034 : Nat); omega)⟩ (Nat.le_of_ble_eq_true rfl) dL_law_1076 rfl hp9 (fun v9 h1076 hq9 => ?_)
        obtain ⟨r1076, rfl, hw⟩ := hq9
        refine aw_dstore (pc := 1079) C dL_law_1079 (by rw [hml]; decide) ?_
        refine aw_dload (pc := 1081) C dL_law_1081 rfl ?_
        refine aw_dload (pc := 1083) C dL_law_1083 rfl ?_
        refine aw_dcmp (pc := 1085) C dL_law_1085  ?_
        obtain ⟨k_1107, hk_1107, hw⟩ := jn_out hw
        have J_1107 : ∀  (h_1107 : AH) (bc8 bs8 : Nat), k_1107  h_1107 → bc8 ≤ bc9 + 1 → bs8 ≤ bs9 + 6 → AW G p l e room_1 s m #[Value.ref b0] below meth c bc8 bs8 (lw_Z below #[Value.ref b0] s0) 1107 (eOf [(0, vR a0), (1, vR x1_7), (2, vR x2_15), (3, vR x3_19), (4, vI x4_23)]) [] h_1107 := by
          intro  h_1107 bc8 bs8 hw hb8 hs8
          rw [hk_1107] at hw
          refine aw_goto (pc := 1107) (tgt := 1124) C dL_law_1107 (by decide) ?_
          refine aw_sub [(0, vR a0), (1, vR x1_7), (2, vR x2_15), (3, vR x3_19), (4, vI x4_23)] ⟨rfl, rfl, rfl, rfl, rfl, trivial⟩ ?_
          exact J_1124  _ _ _ hw (by omega) (by omega)
        refine aw_if_eq (pc := 1086) (tgt := 1107) C dL_law_1086 (by decide) (fun hc9 => ?_) (fun hc9 => ?_)
        · have hw := hw.1 hc9
          refine aw_sub [(0, vR a0), (1, vR x1_7), (2, vR x2_15), (3, vR x3_19), (4, vI x4_23)] ⟨rfl, rfl, rfl, rfl, rfl, trivial⟩ ?_
          exact J_1107  _ _ _ hw (by omega) (by omega)
        · have hw := hw.2 hc9
          refine aw_dload (pc := 1089) C dL_law_1089 rfl ?_
          refine aw_dload (pc := 1091) C dL_law_1091 rfl ?_
          refine aw_dcmp (pc := 1093) C dL_law_1093  ?_
          obtain ⟨k_1105, hk_1105, hw⟩ := jn_out hw
          have J_1105 : ∀  (h_1105 : AH) (bc8 bs8 : Nat), k_1105  h_1105 → bc8 ≤ bc9 + 1 → bs8 ≤ bs9 + 6 → AW G p l e room_1 s m #[Value.ref b0] below meth c bc8 bs8 (lw_Z below #[Value.ref b0] s0) 1105 (eOf []) [] h_1105 := by
            intro  h_1105 bc8 bs8 hw hb8 hs8
            rw [hk_1105] at hw
            refine aw_iconst (pc := 1105) C dL_law_1105 (i := (0 : Int)) (by decide) ?_
            exact aw_lawret (pc := 1106) hs0 hd0 hH0 C hr dL_law_1106 (by omega) (by omega) (hQ _ _ hw)
          refine aw_if_eq (pc := 1094) (tgt := 1105) C dL_law_1094 (by decide) (fun hc9 => ?_) (fun hc9 => ?_)
          · have hw := hw.1 hc9
            refine aw_sub [] trivial ?_
            exact J_1105  _ _ _ hw (by omega) (by omega)
          · have hw := hw.2 hc9
            refine aw_dload (pc := 1097) C dL_law_1097 rfl ?_
            refine aw_dload (pc := 1099) C dL_law_1099 rfl ?_
            refine aw_dcmp (pc := 1101) C dL_law_1101  ?_
            refine aw_if_ne (pc := 1102) (tgt := 1107) C dL_law_1102 (by decide) (fun hc9 => ?_) (fun hc9 => ?_)
            · have hw := hw.1 hc9
              refine aw_sub [(0, vR a0), (1, vR x1_7), (2, vR x2_15), (3, vR x3_19), (4, vI x4_23)] ⟨rfl, rfl, rfl, rfl, rfl, trivial⟩ ?_
              exact J_1107  _ _ _ hw (by omega) (by omega)
            · have hw := hw.2 hc9
              refine aw_sub [] trivial ?_
              exact J_1105  _ _ _ hw (by omega) (by omega)
      · have hw := hw.2.2.2.2.2.2.2.2.2.2.2.2.2.2.2.2.2.2.2.1 hc9
        refine aw_tableIn (pc := 39) (off := 1071) (tgt := 1110) C dL_law_39 (by omega) (by omega) (by rw [hc9]; rfl) (by decide) ?_
        refine aw_aload_n (pc := 1110) C dL_law_1110 rfl rfl ?_
        obtain ⟨hp9, hw⟩ := hw
        refine aw_callV (pc := 1111) (as := []) C ci6 (fun As hA => met_X6_digest G l As x1_7 _ _ hA hw) tw410 tw411 tw412 tw1 tw413 ⟨rfl, rfl⟩ ⟨rfl, by decide, by decide, pd_X6_digest⟩ ⟨Nat.le_of_ble_eq_true rfl, Nat.le_of_ble_eq_true rfl⟩ ⟨(by show _ ≤ (601024 : Nat); omega), (by show _ ≤ (7293034 : Nat); omega)⟩ (Nat.le_of_ble_eq_true rfl) dL_law_1111 rfl hp9 (fun v9 h1111 hq9 => ?_)
        obtain ⟨r1111, rfl, hw⟩ := hq9
        refine aw_aload_n (pc := 1114) C dL_law_1114 rfl rfl ?_
        obtain ⟨hp9, hw⟩ := hw
        refine aw_callV (pc := 1115) (as := []) C ci7 (fun As hA => met_X7_digest G l As x2_15 _ _ hA hw) tw1110 tw1111 tw1112 tw10 tw1113 ⟨rfl, rfl⟩ ⟨rfl, by decide, by decide, pd_X7_digest⟩ ⟨Nat.le_of_ble_eq_true rfl, Nat.le_of_ble_eq_true rfl⟩ ⟨(by show _ ≤ (601024 : Nat); omega), (by show _ ≤ (7293034 : Nat); omega)⟩ (Nat.le_of_ble_eq_true rfl) dL_law_1115 rfl hp9 (fun v9 h1115 hq9 => ?_)
        obtain ⟨r1115, rfl, hw⟩ := hq9
        refine aw_lcmp (pc := 1118) C dL_law_1118  ?_
        refine aw_if_eq (pc := 1119) (tgt := 1124) C dL_law_1119 (by decide) (fun hc9 => ?_) (fun hc9 => ?_)
        · have hw := hw.1 hc9
          refine aw_sub [(0, vR a0), (1, vR x1_7), (2, vR x2_15), (3, vR x3_19), (4, vI x4_23)] ⟨rfl, rfl, rfl, rfl, rfl, trivial⟩ ?_
          exact J_1124  _ _ _ hw (by omega) (by omega)
        · have hw := hw.2 hc9
          refine aw_iconst (pc := 1122) C dL_law_1122 (i := (0 : Int)) (by decide) ?_
          exact aw_lawret (pc := 1123) hs0 hd0 hH0 C hr dL_law_1123 (by omega) (by omega) (hQ _ _ hw)
      · have hw := hw.2.2.2.2.2.2.2.2.2.2.2.2.2.2.2.2.2.2.2.2 hc9
        refine aw_tableOut (pc := 39) (tgt := 1124) C dL_law_39 hc9 (by decide) ?_
        refine aw_sub [(0, vR a0), (1, vR x1_7), (2, vR x2_15), (3, vR x3_19), (4, vI x4_23)] ⟨rfl, rfl, rfl, rfl, rfl, trivial⟩ ?_
        exact J_1124  _ _ _ hw (by omega) (by omega)
  refine aw_sub [(0, vR a0), (1, vR x1_7), (2, vR x2_15), (3, vR x3_19), (4, vI (0 : Int))] ⟨rfl, rfl, rfl, rfl, rfl, trivial⟩ ?_
  exact L_23 n9 _ _ _ _ hi9 (by omega) (by omega)
