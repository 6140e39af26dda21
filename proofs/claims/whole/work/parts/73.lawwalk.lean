theorem dL_law_0 : decode cL_law 0 = .ok (.new 7, 3) := by decide +kernel
theorem dL_law_3 : decode cL_law 3 = .ok (.dup, 1) := by decide +kernel
theorem dL_law_4 : decode cL_law 4 = .ok (.invokespecial 9, 3) := by decide +kernel
theorem dL_law_7 : decode cL_law 7 = .ok (.astore_n 1, 1) := by decide +kernel
theorem dL_law_8 : decode cL_law 8 = .ok (.new 10, 3) := by decide +kernel
theorem dL_law_11 : decode cL_law 11 = .ok (.dup, 1) := by decide +kernel
theorem dL_law_12 : decode cL_law 12 = .ok (.invokespecial 12, 3) := by decide +kernel
theorem dL_law_15 : decode cL_law 15 = .ok (.astore_n 2, 1) := by decide +kernel
theorem dL_law_16 : decode cL_law 16 = .ok (.iconst 0, 1) := by decide +kernel
theorem dL_law_17 : decode cL_law 17 = .ok (.istore_n 3, 1) := by decide +kernel
theorem dL_law_18 : decode cL_law 18 = .ok (.iload_n 3, 1) := by decide +kernel
theorem dL_law_19 : decode cL_law 19 = .ok (.aload_n 0, 1) := by decide +kernel
theorem dL_law_20 : decode cL_law 20 = .ok (.arraylength, 1) := by decide +kernel
theorem dL_law_21 : decode cL_law 21 = .ok (.iconst 5, 1) := by decide +kernel
theorem dL_law_22 : decode cL_law 22 = .ok (.isub, 1) := by decide +kernel
theorem dL_law_23 : decode cL_law 23 = .ok (.if_icmp .gt 849, 3) := by decide +kernel
theorem dL_law_26 : decode cL_law 26 = .ok (.aload_n 0, 1) := by decide +kernel
theorem dL_law_27 : decode cL_law 27 = .ok (.iload_n 3, 1) := by decide +kernel
theorem dL_law_28 : decode cL_law 28 = .ok (.iaload, 1) := by decide +kernel
theorem dL_law_29 : decode cL_law 29 = .ok (.bipush 31, 2) := by decide +kernel
theorem dL_law_31 : decode cL_law 31 = .ok (.iand, 1) := by decide +kernel
theorem dL_law_32 : decode cL_law 32 = .ok (.tableswitch 834 0 22 #[108, 171, 194, 227, 240, 253, 266, 279, 290, 343, 412, 435, 458, 527, 550, 583, 616, 649, 682, 696, 729, 762, 811], 108) := by decide +kernel
theorem dL_law_140 : decode cL_law 140 = .ok (.aload_n 1, 1) := by decide +kernel
theorem dL_law_141 : decode cL_law 141 = .ok (.aload_n 0, 1) := by decide +kernel
theorem dL_law_142 : decode cL_law 142 = .ok (.iload_n 3, 1) := by decide +kernel
theorem dL_law_143 : decode cL_law 143 = .ok (.iconst 1, 1) := by decide +kernel
theorem dL_law_144 : decode cL_law 144 = .ok (.iadd, 1) := by decide +kernel
theorem dL_law_145 : decode cL_law 145 = .ok (.iaload, 1) := by decide +kernel
theorem dL_law_146 : decode cL_law 146 = .ok (.i2l, 1) := by decide +kernel
theorem dL_law_147 : decode cL_law 147 = .ok (.bipush 32, 2) := by decide +kernel
theorem dL_law_149 : decode cL_law 149 = .ok (.lshl, 1) := by decide +kernel
theorem dL_law_150 : decode cL_law 150 = .ok (.aload_n 0, 1) := by decide +kernel
theorem dL_law_151 : decode cL_law 151 = .ok (.iload_n 3, 1) := by decide +kernel
theorem dL_law_152 : decode cL_law 152 = .ok (.iconst 2, 1) := by decide +kernel
theorem dL_law_153 : decode cL_law 153 = .ok (.iadd, 1) := by decide +kernel
theorem dL_law_154 : decode cL_law 154 = .ok (.iaload, 1) := by decide +kernel
theorem dL_law_155 : decode cL_law 155 = .ok (.i2l, 1) := by decide +kernel
theorem dL_law_156 : decode cL_law 156 = .ok (.ldc2_w 13, 3) := by decide +kernel
theorem dL_law_159 : decode cL_law 159 = .ok (.land, 1) := by decide +kernel
theorem dL_law_160 : decode cL_law 160 = .ok (.lor, 1) := by decide +kernel
theorem dL_law_161 : decode cL_law 161 = .ok (.aload_n 0, 1) := by decide +kernel
theorem dL_law_162 : decode cL_law 162 = .ok (.iload_n 3, 1) := by decide +kernel
theorem dL_law_163 : decode cL_law 163 = .ok (.iconst 3, 1) := by decide +kernel
theorem dL_law_164 : decode cL_law 164 = .ok (.iadd, 1) := by decide +kernel
theorem dL_law_165 : decode cL_law 165 = .ok (.iaload, 1) := by decide +kernel
theorem dL_law_166 : decode cL_law 166 = .ok (.invokevirtual 15, 3) := by decide +kernel
theorem dL_law_169 : decode cL_law 169 = .ok (.aload_n 2, 1) := by decide +kernel
theorem dL_law_170 : decode cL_law 170 = .ok (.aload_n 0, 1) := by decide +kernel
theorem dL_law_171 : decode cL_law 171 = .ok (.iload_n 3, 1) := by decide +kernel
theorem dL_law_172 : decode cL_law 172 = .ok (.iconst 1, 1) := by decide +kernel
theorem dL_law_173 : decode cL_law 173 = .ok (.iadd, 1) := by decide +kernel
theorem dL_law_174 : decode cL_law 174 = .ok (.iaload, 1) := by decide +kernel
theorem dL_law_175 : decode cL_law 175 = .ok (.i2l, 1) := by decide +kernel
theorem dL_law_176 : decode cL_law 176 = .ok (.bipush 32, 2) := by decide +kernel
theorem dL_law_178 : decode cL_law 178 = .ok (.lshl, 1) := by decide +kernel
theorem dL_law_179 : decode cL_law 179 = .ok (.aload_n 0, 1) := by decide +kernel
theorem dL_law_180 : decode cL_law 180 = .ok (.iload_n 3, 1) := by decide +kernel
theorem dL_law_181 : decode cL_law 181 = .ok (.iconst 2, 1) := by decide +kernel
theorem dL_law_182 : decode cL_law 182 = .ok (.iadd, 1) := by decide +kernel
theorem dL_law_183 : decode cL_law 183 = .ok (.iaload, 1) := by decide +kernel
theorem dL_law_184 : decode cL_law 184 = .ok (.i2l, 1) := by decide +kernel
theorem dL_law_185 : decode cL_law 185 = .ok (.ldc2_w 13, 3) := by decide +kernel
theorem dL_law_188 : decode cL_law 188 = .ok (.land, 1) := by decide +kernel
theorem dL_law_189 : decode cL_law 189 = .ok (.lor, 1) := by decide +kernel
theorem dL_law_190 : decode cL_law 190 = .ok (.aload_n 0, 1) := by decide +kernel
theorem dL_law_191 : decode cL_law 191 = .ok (.iload_n 3, 1) := by decide +kernel
theorem dL_law_192 : decode cL_law 192 = .ok (.iconst 3, 1) := by decide +kernel
theorem dL_law_193 : decode cL_law 193 = .ok (.iadd, 1) := by decide +kernel
theorem dL_law_194 : decode cL_law 194 = .ok (.iaload, 1) := by decide +kernel
theorem dL_law_195 : decode cL_law 195 = .ok (.invokevirtual 19, 3) := by decide +kernel
theorem dL_law_198 : decode cL_law 198 = .ok (.if_icmp .eq 668, 3) := by decide +kernel
theorem dL_law_201 : decode cL_law 201 = .ok (.iconst 0, 1) := by decide +kernel
theorem dL_law_202 : decode cL_law 202 = .ok (.ireturn, 1) := by decide +kernel
theorem dL_law_203 : decode cL_law 203 = .ok (.aload_n 1, 1) := by decide +kernel
theorem dL_law_204 : decode cL_law 204 = .ok (.aload_n 0, 1) := by decide +kernel
theorem dL_law_205 : decode cL_law 205 = .ok (.iload_n 3, 1) := by decide +kernel
theorem dL_law_206 : decode cL_law 206 = .ok (.iconst 1, 1) := by decide +kernel
theorem dL_law_207 : decode cL_law 207 = .ok (.iadd, 1) := by decide +kernel
theorem dL_law_208 : decode cL_law 208 = .ok (.iaload, 1) := by decide +kernel
theorem dL_law_209 : decode cL_law 209 = .ok (.invokevirtual 20, 3) := by decide +kernel
theorem dL_law_212 : decode cL_law 212 = .ok (.aload_n 2, 1) := by decide +kernel
theorem dL_law_213 : decode cL_law 213 = .ok (.aload_n 0, 1) := by decide +kernel
theorem dL_law_214 : decode cL_law 214 = .ok (.iload_n 3, 1) := by decide +kernel
theorem dL_law_215 : decode cL_law 215 = .ok (.iconst 1, 1) := by decide +kernel
theorem dL_law_216 : decode cL_law 216 = .ok (.iadd, 1) := by decide +kernel
theorem dL_law_217 : decode cL_law 217 = .ok (.iaload, 1) := by decide +kernel
theorem dL_law_218 : decode cL_law 218 = .ok (.invokevirtual 24, 3) := by decide +kernel
theorem dL_law_221 : decode cL_law 221 = .ok (.if_icmp .eq 645, 3) := by decide +kernel
theorem dL_law_224 : decode cL_law 224 = .ok (.iconst 0, 1) := by decide +kernel
theorem dL_law_225 : decode cL_law 225 = .ok (.ireturn, 1) := by decide +kernel
theorem dL_law_226 : decode cL_law 226 = .ok (.aload_n 1, 1) := by decide +kernel
theorem dL_law_227 : decode cL_law 227 = .ok (.aload_n 0, 1) := by decide +kernel
theorem dL_law_228 : decode cL_law 228 = .ok (.iload_n 3, 1) := by decide +kernel
theorem dL_law_229 : decode cL_law 229 = .ok (.iconst 1, 1) := by decide +kernel
theorem dL_law_230 : decode cL_law 230 = .ok (.iadd, 1) := by decide +kernel
theorem dL_law_231 : decode cL_law 231 = .ok (.iaload, 1) := by decide +kernel
theorem dL_law_232 : decode cL_law 232 = .ok (.aload_n 0, 1) := by decide +kernel
theorem dL_law_233 : decode cL_law 233 = .ok (.iload_n 3, 1) := by decide +kernel
theorem dL_law_234 : decode cL_law 234 = .ok (.iconst 2, 1) := by decide +kernel
theorem dL_law_235 : decode cL_law 235 = .ok (.iadd, 1) := by decide +kernel
theorem dL_law_236 : decode cL_law 236 = .ok (.iaload, 1) := by decide +kernel
theorem dL_law_237 : decode cL_law 237 = .ok (.invokevirtual 25, 3) := by decide +kernel
theorem dL_law_240 : decode cL_law 240 = .ok (.aload_n 2, 1) := by decide +kernel
theorem dL_law_241 : decode cL_law 241 = .ok (.aload_n 0, 1) := by decide +kernel
theorem dL_law_242 : decode cL_law 242 = .ok (.iload_n 3, 1) := by decide +kernel
theorem dL_law_243 : decode cL_law 243 = .ok (.iconst 1, 1) := by decide +kernel
theorem dL_law_244 : decode cL_law 244 = .ok (.iadd, 1) := by decide +kernel
theorem dL_law_245 : decode cL_law 245 = .ok (.iaload, 1) := by decide +kernel
theorem dL_law_246 : decode cL_law 246 = .ok (.aload_n 0, 1) := by decide +kernel
theorem dL_law_247 : decode cL_law 247 = .ok (.iload_n 3, 1) := by decide +kernel
theorem dL_law_248 : decode cL_law 248 = .ok (.iconst 2, 1) := by decide +kernel
theorem dL_law_249 : decode cL_law 249 = .ok (.iadd, 1) := by decide +kernel
theorem dL_law_250 : decode cL_law 250 = .ok (.iaload, 1) := by decide +kernel
theorem dL_law_251 : decode cL_law 251 = .ok (.invokevirtual 29, 3) := by decide +kernel
theorem dL_law_254 : decode cL_law 254 = .ok (.if_icmp .eq 612, 3) := by decide +kernel
theorem dL_law_257 : decode cL_law 257 = .ok (.iconst 0, 1) := by decide +kernel
theorem dL_law_258 : decode cL_law 258 = .ok (.ireturn, 1) := by decide +kernel
theorem dL_law_259 : decode cL_law 259 = .ok (.aload_n 1, 1) := by decide +kernel
theorem dL_law_260 : decode cL_law 260 = .ok (.invokevirtual 30, 3) := by decide +kernel
theorem dL_law_263 : decode cL_law 263 = .ok (.aload_n 2, 1) := by decide +kernel
theorem dL_law_264 : decode cL_law 264 = .ok (.invokevirtual 34, 3) := by decide +kernel
theorem dL_law_267 : decode cL_law 267 = .ok (.if_icmp .eq 599, 3) := by decide +kernel
theorem dL_law_270 : decode cL_law 270 = .ok (.iconst 0, 1) := by decide +kernel
theorem dL_law_271 : decode cL_law 271 = .ok (.ireturn, 1) := by decide +kernel
theorem dL_law_272 : decode cL_law 272 = .ok (.aload_n 1, 1) := by decide +kernel
theorem dL_law_273 : decode cL_law 273 = .ok (.invokevirtual 35, 3) := by decide +kernel
theorem dL_law_276 : decode cL_law 276 = .ok (.aload_n 2, 1) := by decide +kernel
theorem dL_law_277 : decode cL_law 277 = .ok (.invokevirtual 38, 3) := by decide +kernel
theorem dL_law_280 : decode cL_law 280 = .ok (.if_icmp .eq 586, 3) := by decide +kernel
theorem dL_law_283 : decode cL_law 283 = .ok (.iconst 0, 1) := by decide +kernel
theorem dL_law_284 : decode cL_law 284 = .ok (.ireturn, 1) := by decide +kernel
theorem dL_law_285 : decode cL_law 285 = .ok (.aload_n 1, 1) := by decide +kernel
theorem dL_law_286 : decode cL_law 286 = .ok (.invokevirtual 39, 3) := by decide +kernel
theorem dL_law_289 : decode cL_law 289 = .ok (.aload_n 2, 1) := by decide +kernel
theorem dL_law_290 : decode cL_law 290 = .ok (.invokevirtual 42, 3) := by decide +kernel
theorem dL_law_293 : decode cL_law 293 = .ok (.if_icmp .eq 573, 3) := by decide +kernel
theorem dL_law_296 : decode cL_law 296 = .ok (.iconst 0, 1) := by decide +kernel
theorem dL_law_297 : decode cL_law 297 = .ok (.ireturn, 1) := by decide +kernel
theorem dL_law_298 : decode cL_law 298 = .ok (.aload_n 1, 1) := by decide +kernel
theorem dL_law_299 : decode cL_law 299 = .ok (.invokevirtual 43, 3) := by decide +kernel
theorem dL_law_302 : decode cL_law 302 = .ok (.aload_n 2, 1) := by decide +kernel
theorem dL_law_303 : decode cL_law 303 = .ok (.invokevirtual 46, 3) := by decide +kernel
theorem dL_law_306 : decode cL_law 306 = .ok (.if_icmp .eq 560, 3) := by decide +kernel
theorem dL_law_309 : decode cL_law 309 = .ok (.iconst 0, 1) := by decide +kernel
theorem dL_law_310 : decode cL_law 310 = .ok (.ireturn, 1) := by decide +kernel
theorem dL_law_311 : decode cL_law 311 = .ok (.aload_n 1, 1) := by decide +kernel
theorem dL_law_312 : decode cL_law 312 = .ok (.invokevirtual 47, 3) := by decide +kernel
theorem dL_law_315 : decode cL_law 315 = .ok (.aload_n 2, 1) := by decide +kernel
theorem dL_law_316 : decode cL_law 316 = .ok (.invokevirtual 50, 3) := by decide +kernel
theorem dL_law_319 : decode cL_law 319 = .ok (.goto 547, 3) := by decide +kernel
theorem dL_law_322 : decode cL_law 322 = .ok (.aload_n 1, 1) := by decide +kernel
theorem dL_law_323 : decode cL_law 323 = .ok (.aload_n 0, 1) := by decide +kernel
theorem dL_law_324 : decode cL_law 324 = .ok (.iload_n 3, 1) := by decide +kernel
theorem dL_law_325 : decode cL_law 325 = .ok (.iconst 1, 1) := by decide +kernel
theorem dL_law_326 : decode cL_law 326 = .ok (.iadd, 1) := by decide +kernel
theorem dL_law_327 : decode cL_law 327 = .ok (.iaload, 1) := by decide +kernel
theorem dL_law_328 : decode cL_law 328 = .ok (.aload_n 0, 1) := by decide +kernel
theorem dL_law_329 : decode cL_law 329 = .ok (.iload_n 3, 1) := by decide +kernel
theorem dL_law_330 : decode cL_law 330 = .ok (.iconst 2, 1) := by decide +kernel
theorem dL_law_331 : decode cL_law 331 = .ok (.iadd, 1) := by decide +kernel
theorem dL_law_332 : decode cL_law 332 = .ok (.iaload, 1) := by decide +kernel
theorem dL_law_333 : decode cL_law 333 = .ok (.aload_n 0, 1) := by decide +kernel
theorem dL_law_334 : decode cL_law 334 = .ok (.iload_n 3, 1) := by decide +kernel
theorem dL_law_335 : decode cL_law 335 = .ok (.iconst 3, 1) := by decide +kernel
theorem dL_law_336 : decode cL_law 336 = .ok (.iadd, 1) := by decide +kernel
theorem dL_law_337 : decode cL_law 337 = .ok (.iaload, 1) := by decide +kernel
theorem dL_law_338 : decode cL_law 338 = .ok (.aload_n 0, 1) := by decide +kernel
theorem dL_law_339 : decode cL_law 339 = .ok (.iload_n 3, 1) := by decide +kernel
theorem dL_law_340 : decode cL_law 340 = .ok (.iconst 4, 1) := by decide +kernel
theorem dL_law_341 : decode cL_law 341 = .ok (.iadd, 1) := by decide +kernel
theorem dL_law_342 : decode cL_law 342 = .ok (.iaload, 1) := by decide +kernel
theorem dL_law_343 : decode cL_law 343 = .ok (.invokevirtual 51, 3) := by decide +kernel
theorem dL_law_346 : decode cL_law 346 = .ok (.aload_n 2, 1) := by decide +kernel
theorem dL_law_347 : decode cL_law 347 = .ok (.aload_n 0, 1) := by decide +kernel
theorem dL_law_348 : decode cL_law 348 = .ok (.iload_n 3, 1) := by decide +kernel
theorem dL_law_349 : decode cL_law 349 = .ok (.iconst 1, 1) := by decide +kernel
theorem dL_law_350 : decode cL_law 350 = .ok (.iadd, 1) := by decide +kernel
theorem dL_law_351 : decode cL_law 351 = .ok (.iaload, 1) := by decide +kernel
theorem dL_law_352 : decode cL_law 352 = .ok (.aload_n 0, 1) := by decide +kernel
theorem dL_law_353 : decode cL_law 353 = .ok (.iload_n 3, 1) := by decide +kernel
theorem dL_law_354 : decode cL_law 354 = .ok (.iconst 2, 1) := by decide +kernel
theorem dL_law_355 : decode cL_law 355 = .ok (.iadd, 1) := by decide +kernel
theorem dL_law_356 : decode cL_law 356 = .ok (.iaload, 1) := by decide +kernel
theorem dL_law_357 : decode cL_law 357 = .ok (.aload_n 0, 1) := by decide +kernel
theorem dL_law_358 : decode cL_law 358 = .ok (.iload_n 3, 1) := by decide +kernel
theorem dL_law_359 : decode cL_law 359 = .ok (.iconst 3, 1) := by decide +kernel
theorem dL_law_360 : decode cL_law 360 = .ok (.iadd, 1) := by decide +kernel
theorem dL_law_361 : decode cL_law 361 = .ok (.iaload, 1) := by decide +kernel
theorem dL_law_362 : decode cL_law 362 = .ok (.aload_n 0, 1) := by decide +kernel
theorem dL_law_363 : decode cL_law 363 = .ok (.iload_n 3, 1) := by decide +kernel
theorem dL_law_364 : decode cL_law 364 = .ok (.iconst 4, 1) := by decide +kernel
theorem dL_law_365 : decode cL_law 365 = .ok (.iadd, 1) := by decide +kernel
theorem dL_law_366 : decode cL_law 366 = .ok (.iaload, 1) := by decide +kernel
theorem dL_law_367 : decode cL_law 367 = .ok (.invokevirtual 55, 3) := by decide +kernel
theorem dL_law_370 : decode cL_law 370 = .ok (.if_icmp .eq 496, 3) := by decide +kernel
theorem dL_law_373 : decode cL_law 373 = .ok (.iconst 0, 1) := by decide +kernel
theorem dL_law_374 : decode cL_law 374 = .ok (.ireturn, 1) := by decide +kernel
theorem dL_law_375 : decode cL_law 375 = .ok (.aload_n 1, 1) := by decide +kernel
theorem dL_law_376 : decode cL_law 376 = .ok (.aload_n 0, 1) := by decide +kernel
theorem dL_law_377 : decode cL_law 377 = .ok (.iload_n 3, 1) := by decide +kernel
theorem dL_law_378 : decode cL_law 378 = .ok (.iconst 1, 1) := by decide +kernel
theorem dL_law_379 : decode cL_law 379 = .ok (.iadd, 1) := by decide +kernel
theorem dL_law_380 : decode cL_law 380 = .ok (.iaload, 1) := by decide +kernel
theorem dL_law_381 : decode cL_law 381 = .ok (.aload_n 0, 1) := by decide +kernel
theorem dL_law_382 : decode cL_law 382 = .ok (.iload_n 3, 1) := by decide +kernel
theorem dL_law_383 : decode cL_law 383 = .ok (.iconst 2, 1) := by decide +kernel
theorem dL_law_384 : decode cL_law 384 = .ok (.iadd, 1) := by decide +kernel
theorem dL_law_385 : decode cL_law 385 = .ok (.iaload, 1) := by decide +kernel
theorem dL_law_386 : decode cL_law 386 = .ok (.aload_n 0, 1) := by decide +kernel
theorem dL_law_387 : decode cL_law 387 = .ok (.iload_n 3, 1) := by decide +kernel
theorem dL_law_388 : decode cL_law 388 = .ok (.iconst 3, 1) := by decide +kernel
theorem dL_law_389 : decode cL_law 389 = .ok (.iadd, 1) := by decide +kernel
theorem dL_law_390 : decode cL_law 390 = .ok (.iaload, 1) := by decide +kernel
theorem dL_law_391 : decode cL_law 391 = .ok (.aload_n 0, 1) := by decide +kernel
theorem dL_law_392 : decode cL_law 392 = .ok (.iload_n 3, 1) := by decide +kernel
theorem dL_law_393 : decode cL_law 393 = .ok (.iconst 4, 1) := by decide +kernel
theorem dL_law_394 : decode cL_law 394 = .ok (.iadd, 1) := by decide +kernel
theorem dL_law_395 : decode cL_law 395 = .ok (.iaload, 1) := by decide +kernel
theorem dL_law_396 : decode cL_law 396 = .ok (.ifCond .eq 7, 3) := by decide +kernel
theorem dL_law_399 : decode cL_law 399 = .ok (.iconst 1, 1) := by decide +kernel
theorem dL_law_400 : decode cL_law 400 = .ok (.goto 4, 3) := by decide +kernel
theorem dL_law_403 : decode cL_law 403 = .ok (.iconst 0, 1) := by decide +kernel
theorem dL_law_404 : decode cL_law 404 = .ok (.invokevirtual 56, 3) := by decide +kernel
theorem dL_law_407 : decode cL_law 407 = .ok (.aload_n 2, 1) := by decide +kernel
theorem dL_law_408 : decode cL_law 408 = .ok (.aload_n 0, 1) := by decide +kernel
theorem dL_law_409 : decode cL_law 409 = .ok (.iload_n 3, 1) := by decide +kernel
theorem dL_law_410 : decode cL_law 410 = .ok (.iconst 1, 1) := by decide +kernel
theorem dL_law_411 : decode cL_law 411 = .ok (.iadd, 1) := by decide +kernel
theorem dL_law_412 : decode cL_law 412 = .ok (.iaload, 1) := by decide +kernel
theorem dL_law_413 : decode cL_law 413 = .ok (.aload_n 0, 1) := by decide +kernel
theorem dL_law_414 : decode cL_law 414 = .ok (.iload_n 3, 1) := by decide +kernel
theorem dL_law_415 : decode cL_law 415 = .ok (.iconst 2, 1) := by decide +kernel
theorem dL_law_416 : decode cL_law 416 = .ok (.iadd, 1) := by decide +kernel
theorem dL_law_417 : decode cL_law 417 = .ok (.iaload, 1) := by decide +kernel
theorem dL_law_418 : decode cL_law 418 = .ok (.aload_n 0, 1) := by decide +kernel
theorem dL_law_419 : decode cL_law 419 = .ok (.iload_n 3, 1) := by decide +kernel
theorem dL_law_420 : decode cL_law 420 = .ok (.iconst 3, 1) := by decide +kernel
theorem dL_law_421 : decode cL_law 421 = .ok (.iadd, 1) := by decide +kernel
theorem dL_law_422 : decode cL_law 422 = .ok (.iaload, 1) := by decide +kernel
theorem dL_law_423 : decode cL_law 423 = .ok (.aload_n 0, 1) := by decide +kernel
theorem dL_law_424 : decode cL_law 424 = .ok (.iload_n 3, 1) := by decide +kernel
theorem dL_law_425 : decode cL_law 425 = .ok (.iconst 4, 1) := by decide +kernel
theorem dL_law_426 : decode cL_law 426 = .ok (.iadd, 1) := by decide +kernel
theorem dL_law_427 : decode cL_law 427 = .ok (.iaload, 1) := by decide +kernel
theorem dL_law_428 : decode cL_law 428 = .ok (.ifCond .eq 7, 3) := by decide +kernel
theorem dL_law_431 : decode cL_law 431 = .ok (.iconst 1, 1) := by decide +kernel
theorem dL_law_432 : decode cL_law 432 = .ok (.goto 4, 3) := by decide +kernel
theorem dL_law_435 : decode cL_law 435 = .ok (.iconst 0, 1) := by decide +kernel
theorem dL_law_436 : decode cL_law 436 = .ok (.invokevirtual 60, 3) := by decide +kernel
theorem dL_law_439 : decode cL_law 439 = .ok (.if_icmp .eq 427, 3) := by decide +kernel
theorem dL_law_442 : decode cL_law 442 = .ok (.iconst 0, 1) := by decide +kernel
theorem dL_law_443 : decode cL_law 443 = .ok (.ireturn, 1) := by decide +kernel
theorem dL_law_444 : decode cL_law 444 = .ok (.aload_n 1, 1) := by decide +kernel
theorem dL_law_445 : decode cL_law 445 = .ok (.aload_n 0, 1) := by decide +kernel
theorem dL_law_446 : decode cL_law 446 = .ok (.iload_n 3, 1) := by decide +kernel
theorem dL_law_447 : decode cL_law 447 = .ok (.iconst 1, 1) := by decide +kernel
theorem dL_law_448 : decode cL_law 448 = .ok (.iadd, 1) := by decide +kernel
theorem dL_law_449 : decode cL_law 449 = .ok (.iaload, 1) := by decide +kernel
theorem dL_law_450 : decode cL_law 450 = .ok (.invokevirtual 61, 3) := by decide +kernel
theorem dL_law_453 : decode cL_law 453 = .ok (.aload_n 2, 1) := by decide +kernel
theorem dL_law_454 : decode cL_law 454 = .ok (.aload_n 0, 1) := by decide +kernel
theorem dL_law_455 : decode cL_law 455 = .ok (.iload_n 3, 1) := by decide +kernel
theorem dL_law_456 : decode cL_law 456 = .ok (.iconst 1, 1) := by decide +kernel
theorem dL_law_457 : decode cL_law 457 = .ok (.iadd, 1) := by decide +kernel
theorem dL_law_458 : decode cL_law 458 = .ok (.iaload, 1) := by decide +kernel
theorem dL_law_459 : decode cL_law 459 = .ok (.invokevirtual 64, 3) := by decide +kernel
theorem dL_law_462 : decode cL_law 462 = .ok (.if_icmp .eq 404, 3) := by decide +kernel
theorem dL_law_465 : decode cL_law 465 = .ok (.iconst 0, 1) := by decide +kernel
theorem dL_law_466 : decode cL_law 466 = .ok (.ireturn, 1) := by decide +kernel
theorem dL_law_467 : decode cL_law 467 = .ok (.aload_n 1, 1) := by decide +kernel
theorem dL_law_468 : decode cL_law 468 = .ok (.aload_n 0, 1) := by decide +kernel
theorem dL_law_469 : decode cL_law 469 = .ok (.iload_n 3, 1) := by decide +kernel
theorem dL_law_470 : decode cL_law 470 = .ok (.iconst 1, 1) := by decide +kernel
theorem dL_law_471 : decode cL_law 471 = .ok (.iadd, 1) := by decide +kernel
theorem dL_law_472 : decode cL_law 472 = .ok (.iaload, 1) := by decide +kernel
theorem dL_law_473 : decode cL_law 473 = .ok (.invokevirtual 65, 3) := by decide +kernel
theorem dL_law_476 : decode cL_law 476 = .ok (.aload_n 2, 1) := by decide +kernel
theorem dL_law_477 : decode cL_law 477 = .ok (.aload_n 0, 1) := by decide +kernel
theorem dL_law_478 : decode cL_law 478 = .ok (.iload_n 3, 1) := by decide +kernel
theorem dL_law_479 : decode cL_law 479 = .ok (.iconst 1, 1) := by decide +kernel
theorem dL_law_480 : decode cL_law 480 = .ok (.iadd, 1) := by decide +kernel
theorem dL_law_481 : decode cL_law 481 = .ok (.iaload, 1) := by decide +kernel
theorem dL_law_482 : decode cL_law 482 = .ok (.invokevirtual 69, 3) := by decide +kernel
theorem dL_law_485 : decode cL_law 485 = .ok (.if_icmp .eq 381, 3) := by decide +kernel
theorem dL_law_488 : decode cL_law 488 = .ok (.iconst 0, 1) := by decide +kernel
theorem dL_law_489 : decode cL_law 489 = .ok (.ireturn, 1) := by decide +kernel
theorem dL_law_490 : decode cL_law 490 = .ok (.aload_n 1, 1) := by decide +kernel
theorem dL_law_491 : decode cL_law 491 = .ok (.aload_n 0, 1) := by decide +kernel
theorem dL_law_492 : decode cL_law 492 = .ok (.iload_n 3, 1) := by decide +kernel
theorem dL_law_493 : decode cL_law 493 = .ok (.iconst 1, 1) := by decide +kernel
theorem dL_law_494 : decode cL_law 494 = .ok (.iadd, 1) := by decide +kernel
theorem dL_law_495 : decode cL_law 495 = .ok (.iaload, 1) := by decide +kernel
theorem dL_law_496 : decode cL_law 496 = .ok (.aload_n 0, 1) := by decide +kernel
theorem dL_law_497 : decode cL_law 497 = .ok (.iload_n 3, 1) := by decide +kernel
theorem dL_law_498 : decode cL_law 498 = .ok (.iconst 2, 1) := by decide +kernel
theorem dL_law_499 : decode cL_law 499 = .ok (.iadd, 1) := by decide +kernel
theorem dL_law_500 : decode cL_law 500 = .ok (.iaload, 1) := by decide +kernel
theorem dL_law_501 : decode cL_law 501 = .ok (.aload_n 0, 1) := by decide +kernel
theorem dL_law_502 : decode cL_law 502 = .ok (.iload_n 3, 1) := by decide +kernel
theorem dL_law_503 : decode cL_law 503 = .ok (.iconst 3, 1) := by decide +kernel
theorem dL_law_504 : decode cL_law 504 = .ok (.iadd, 1) := by decide +kernel
theorem dL_law_505 : decode cL_law 505 = .ok (.iaload, 1) := by decide +kernel
theorem dL_law_506 : decode cL_law 506 = .ok (.aload_n 0, 1) := by decide +kernel
theorem dL_law_507 : decode cL_law 507 = .ok (.iload_n 3, 1) := by decide +kernel
theorem dL_law_508 : decode cL_law 508 = .ok (.iconst 4, 1) := by decide +kernel
theorem dL_law_509 : decode cL_law 509 = .ok (.iadd, 1) := by decide +kernel
theorem dL_law_510 : decode cL_law 510 = .ok (.iaload, 1) := by decide +kernel
theorem dL_law_511 : decode cL_law 511 = .ok (.ifCond .eq 7, 3) := by decide +kernel
theorem dL_law_514 : decode cL_law 514 = .ok (.iconst 1, 1) := by decide +kernel
theorem dL_law_515 : decode cL_law 515 = .ok (.goto 4, 3) := by decide +kernel
theorem dL_law_518 : decode cL_law 518 = .ok (.iconst 0, 1) := by decide +kernel
theorem dL_law_519 : decode cL_law 519 = .ok (.invokevirtual 70, 3) := by decide +kernel
theorem dL_law_522 : decode cL_law 522 = .ok (.aload_n 2, 1) := by decide +kernel
theorem dL_law_523 : decode cL_law 523 = .ok (.aload_n 0, 1) := by decide +kernel
theorem dL_law_524 : decode cL_law 524 = .ok (.iload_n 3, 1) := by decide +kernel
theorem dL_law_525 : decode cL_law 525 = .ok (.iconst 1, 1) := by decide +kernel
theorem dL_law_526 : decode cL_law 526 = .ok (.iadd, 1) := by decide +kernel
theorem dL_law_527 : decode cL_law 527 = .ok (.iaload, 1) := by decide +kernel
theorem dL_law_528 : decode cL_law 528 = .ok (.aload_n 0, 1) := by decide +kernel
theorem dL_law_529 : decode cL_law 529 = .ok (.iload_n 3, 1) := by decide +kernel
theorem dL_law_530 : decode cL_law 530 = .ok (.iconst 2, 1) := by decide +kernel
theorem dL_law_531 : decode cL_law 531 = .ok (.iadd, 1) := by decide +kernel
theorem dL_law_532 : decode cL_law 532 = .ok (.iaload, 1) := by decide +kernel
theorem dL_law_533 : decode cL_law 533 = .ok (.aload_n 0, 1) := by decide +kernel
theorem dL_law_534 : decode cL_law 534 = .ok (.iload_n 3, 1) := by decide +kernel
theorem dL_law_535 : decode cL_law 535 = .ok (.iconst 3, 1) := by decide +kernel
theorem dL_law_536 : decode cL_law 536 = .ok (.iadd, 1) := by decide +kernel
theorem dL_law_537 : decode cL_law 537 = .ok (.iaload, 1) := by decide +kernel
theorem dL_law_538 : decode cL_law 538 = .ok (.aload_n 0, 1) := by decide +kernel
theorem dL_law_539 : decode cL_law 539 = .ok (.iload_n 3, 1) := by decide +kernel
theorem dL_law_540 : decode cL_law 540 = .ok (.iconst 4, 1) := by decide +kernel
theorem dL_law_541 : decode cL_law 541 = .ok (.iadd, 1) := by decide +kernel
theorem dL_law_542 : decode cL_law 542 = .ok (.iaload, 1) := by decide +kernel
theorem dL_law_543 : decode cL_law 543 = .ok (.ifCond .eq 7, 3) := by decide +kernel
theorem dL_law_546 : decode cL_law 546 = .ok (.iconst 1, 1) := by decide +kernel
theorem dL_law_547 : decode cL_law 547 = .ok (.goto 4, 3) := by decide +kernel
theorem dL_law_550 : decode cL_law 550 = .ok (.iconst 0, 1) := by decide +kernel
theorem dL_law_551 : decode cL_law 551 = .ok (.invokevirtual 73, 3) := by decide +kernel
theorem dL_law_554 : decode cL_law 554 = .ok (.if_icmp .eq 312, 3) := by decide +kernel
theorem dL_law_557 : decode cL_law 557 = .ok (.iconst 0, 1) := by decide +kernel
theorem dL_law_558 : decode cL_law 558 = .ok (.ireturn, 1) := by decide +kernel
theorem dL_law_559 : decode cL_law 559 = .ok (.aload_n 1, 1) := by decide +kernel
theorem dL_law_560 : decode cL_law 560 = .ok (.aload_n 0, 1) := by decide +kernel
theorem dL_law_561 : decode cL_law 561 = .ok (.iload_n 3, 1) := by decide +kernel
theorem dL_law_562 : decode cL_law 562 = .ok (.iconst 1, 1) := by decide +kernel
theorem dL_law_563 : decode cL_law 563 = .ok (.iadd, 1) := by decide +kernel
theorem dL_law_564 : decode cL_law 564 = .ok (.iaload, 1) := by decide +kernel
theorem dL_law_565 : decode cL_law 565 = .ok (.invokevirtual 74, 3) := by decide +kernel
theorem dL_law_568 : decode cL_law 568 = .ok (.aload_n 2, 1) := by decide +kernel
theorem dL_law_569 : decode cL_law 569 = .ok (.aload_n 0, 1) := by decide +kernel
theorem dL_law_570 : decode cL_law 570 = .ok (.iload_n 3, 1) := by decide +kernel
theorem dL_law_571 : decode cL_law 571 = .ok (.iconst 1, 1) := by decide +kernel
theorem dL_law_572 : decode cL_law 572 = .ok (.iadd, 1) := by decide +kernel
theorem dL_law_573 : decode cL_law 573 = .ok (.iaload, 1) := by decide +kernel
theorem dL_law_574 : decode cL_law 574 = .ok (.invokevirtual 77, 3) := by decide +kernel
theorem dL_law_577 : decode cL_law 577 = .ok (.if_icmp .eq 289, 3) := by decide +kernel
theorem dL_law_580 : decode cL_law 580 = .ok (.iconst 0, 1) := by decide +kernel
theorem dL_law_581 : decode cL_law 581 = .ok (.ireturn, 1) := by decide +kernel
theorem dL_law_582 : decode cL_law 582 = .ok (.aload_n 1, 1) := by decide +kernel
theorem dL_law_583 : decode cL_law 583 = .ok (.aload_n 0, 1) := by decide +kernel
theorem dL_law_584 : decode cL_law 584 = .ok (.iload_n 3, 1) := by decide +kernel
theorem dL_law_585 : decode cL_law 585 = .ok (.iconst 1, 1) := by decide +kernel
theorem dL_law_586 : decode cL_law 586 = .ok (.iadd, 1) := by decide +kernel
theorem dL_law_587 : decode cL_law 587 = .ok (.iaload, 1) := by decide +kernel
theorem dL_law_588 : decode cL_law 588 = .ok (.aload_n 0, 1) := by decide +kernel
theorem dL_law_589 : decode cL_law 589 = .ok (.iload_n 3, 1) := by decide +kernel
theorem dL_law_590 : decode cL_law 590 = .ok (.iconst 2, 1) := by decide +kernel
theorem dL_law_591 : decode cL_law 591 = .ok (.iadd, 1) := by decide +kernel
theorem dL_law_592 : decode cL_law 592 = .ok (.iaload, 1) := by decide +kernel
theorem dL_law_593 : decode cL_law 593 = .ok (.invokevirtual 78, 3) := by decide +kernel
theorem dL_law_596 : decode cL_law 596 = .ok (.aload_n 2, 1) := by decide +kernel
theorem dL_law_597 : decode cL_law 597 = .ok (.aload_n 0, 1) := by decide +kernel
theorem dL_law_598 : decode cL_law 598 = .ok (.iload_n 3, 1) := by decide +kernel
theorem dL_law_599 : decode cL_law 599 = .ok (.iconst 1, 1) := by decide +kernel
theorem dL_law_600 : decode cL_law 600 = .ok (.iadd, 1) := by decide +kernel
theorem dL_law_601 : decode cL_law 601 = .ok (.iaload, 1) := by decide +kernel
theorem dL_law_602 : decode cL_law 602 = .ok (.aload_n 0, 1) := by decide +kernel
theorem dL_law_603 : decode cL_law 603 = .ok (.iload_n 3, 1) := by decide +kernel
theorem dL_law_604 : decode cL_law 604 = .ok (.iconst 2, 1) := by decide +kernel
theorem dL_law_605 : decode cL_law 605 = .ok (.iadd, 1) := by decide +kernel
theorem dL_law_606 : decode cL_law 606 = .ok (.iaload, 1) := by decide +kernel
theorem dL_law_607 : decode cL_law 607 = .ok (.invokevirtual 82, 3) := by decide +kernel
theorem dL_law_610 : decode cL_law 610 = .ok (.if_icmp .eq 256, 3) := by decide +kernel
theorem dL_law_613 : decode cL_law 613 = .ok (.iconst 0, 1) := by decide +kernel
theorem dL_law_614 : decode cL_law 614 = .ok (.ireturn, 1) := by decide +kernel
theorem dL_law_615 : decode cL_law 615 = .ok (.aload_n 1, 1) := by decide +kernel
theorem dL_law_616 : decode cL_law 616 = .ok (.aload_n 0, 1) := by decide +kernel
theorem dL_law_617 : decode cL_law 617 = .ok (.iload_n 3, 1) := by decide +kernel
theorem dL_law_618 : decode cL_law 618 = .ok (.iconst 1, 1) := by decide +kernel
theorem dL_law_619 : decode cL_law 619 = .ok (.iadd, 1) := by decide +kernel
theorem dL_law_620 : decode cL_law 620 = .ok (.iaload, 1) := by decide +kernel
theorem dL_law_621 : decode cL_law 621 = .ok (.aload_n 0, 1) := by decide +kernel
theorem dL_law_622 : decode cL_law 622 = .ok (.iload_n 3, 1) := by decide +kernel
theorem dL_law_623 : decode cL_law 623 = .ok (.iconst 2, 1) := by decide +kernel
theorem dL_law_624 : decode cL_law 624 = .ok (.iadd, 1) := by decide +kernel
theorem dL_law_625 : decode cL_law 625 = .ok (.iaload, 1) := by decide +kernel
theorem dL_law_626 : decode cL_law 626 = .ok (.invokevirtual 83, 3) := by decide +kernel
theorem dL_law_629 : decode cL_law 629 = .ok (.aload_n 2, 1) := by decide +kernel
theorem dL_law_630 : decode cL_law 630 = .ok (.aload_n 0, 1) := by decide +kernel
theorem dL_law_631 : decode cL_law 631 = .ok (.iload_n 3, 1) := by decide +kernel
theorem dL_law_632 : decode cL_law 632 = .ok (.iconst 1, 1) := by decide +kernel
theorem dL_law_633 : decode cL_law 633 = .ok (.iadd, 1) := by decide +kernel
theorem dL_law_634 : decode cL_law 634 = .ok (.iaload, 1) := by decide +kernel
theorem dL_law_635 : decode cL_law 635 = .ok (.aload_n 0, 1) := by decide +kernel
theorem dL_law_636 : decode cL_law 636 = .ok (.iload_n 3, 1) := by decide +kernel
theorem dL_law_637 : decode cL_law 637 = .ok (.iconst 2, 1) := by decide +kernel
theorem dL_law_638 : decode cL_law 638 = .ok (.iadd, 1) := by decide +kernel
theorem dL_law_639 : decode cL_law 639 = .ok (.iaload, 1) := by decide +kernel
theorem dL_law_640 : decode cL_law 640 = .ok (.invokevirtual 86, 3) := by decide +kernel
theorem dL_law_643 : decode cL_law 643 = .ok (.if_icmp .eq 223, 3) := by decide +kernel
theorem dL_law_646 : decode cL_law 646 = .ok (.iconst 0, 1) := by decide +kernel
theorem dL_law_647 : decode cL_law 647 = .ok (.ireturn, 1) := by decide +kernel
theorem dL_law_648 : decode cL_law 648 = .ok (.aload_n 1, 1) := by decide +kernel
theorem dL_law_649 : decode cL_law 649 = .ok (.aload_n 0, 1) := by decide +kernel
theorem dL_law_650 : decode cL_law 650 = .ok (.iload_n 3, 1) := by decide +kernel
theorem dL_law_651 : decode cL_law 651 = .ok (.iconst 1, 1) := by decide +kernel
theorem dL_law_652 : decode cL_law 652 = .ok (.iadd, 1) := by decide +kernel
theorem dL_law_653 : decode cL_law 653 = .ok (.iaload, 1) := by decide +kernel
theorem dL_law_654 : decode cL_law 654 = .ok (.aload_n 0, 1) := by decide +kernel
theorem dL_law_655 : decode cL_law 655 = .ok (.iload_n 3, 1) := by decide +kernel
theorem dL_law_656 : decode cL_law 656 = .ok (.iconst 2, 1) := by decide +kernel
theorem dL_law_657 : decode cL_law 657 = .ok (.iadd, 1) := by decide +kernel
theorem dL_law_658 : decode cL_law 658 = .ok (.iaload, 1) := by decide +kernel
theorem dL_law_659 : decode cL_law 659 = .ok (.invokevirtual 87, 3) := by decide +kernel
theorem dL_law_662 : decode cL_law 662 = .ok (.aload_n 2, 1) := by decide +kernel
theorem dL_law_663 : decode cL_law 663 = .ok (.aload_n 0, 1) := by decide +kernel
theorem dL_law_664 : decode cL_law 664 = .ok (.iload_n 3, 1) := by decide +kernel
theorem dL_law_665 : decode cL_law 665 = .ok (.iconst 1, 1) := by decide +kernel
theorem dL_law_666 : decode cL_law 666 = .ok (.iadd, 1) := by decide +kernel
theorem dL_law_667 : decode cL_law 667 = .ok (.iaload, 1) := by decide +kernel
theorem dL_law_668 : decode cL_law 668 = .ok (.aload_n 0, 1) := by decide +kernel
theorem dL_law_669 : decode cL_law 669 = .ok (.iload_n 3, 1) := by decide +kernel
theorem dL_law_670 : decode cL_law 670 = .ok (.iconst 2, 1) := by decide +kernel
theorem dL_law_671 : decode cL_law 671 = .ok (.iadd, 1) := by decide +kernel
theorem dL_law_672 : decode cL_law 672 = .ok (.iaload, 1) := by decide +kernel
theorem dL_law_673 : decode cL_law 673 = .ok (.invokevirtual 90, 3) := by decide +kernel
theorem dL_law_676 : decode cL_law 676 = .ok (.if_icmp .eq 190, 3) := by decide +kernel
theorem dL_law_679 : decode cL_law 679 = .ok (.iconst 0, 1) := by decide +kernel
theorem dL_law_680 : decode cL_law 680 = .ok (.ireturn, 1) := by decide +kernel
theorem dL_law_681 : decode cL_law 681 = .ok (.aload_n 1, 1) := by decide +kernel
theorem dL_law_682 : decode cL_law 682 = .ok (.aload_n 0, 1) := by decide +kernel
theorem dL_law_683 : decode cL_law 683 = .ok (.iload_n 3, 1) := by decide +kernel
theorem dL_law_684 : decode cL_law 684 = .ok (.iconst 1, 1) := by decide +kernel
theorem dL_law_685 : decode cL_law 685 = .ok (.iadd, 1) := by decide +kernel
theorem dL_law_686 : decode cL_law 686 = .ok (.iaload, 1) := by decide +kernel
theorem dL_law_687 : decode cL_law 687 = .ok (.aload_n 0, 1) := by decide +kernel
theorem dL_law_688 : decode cL_law 688 = .ok (.iload_n 3, 1) := by decide +kernel
theorem dL_law_689 : decode cL_law 689 = .ok (.iconst 2, 1) := by decide +kernel
theorem dL_law_690 : decode cL_law 690 = .ok (.iadd, 1) := by decide +kernel
theorem dL_law_691 : decode cL_law 691 = .ok (.iaload, 1) := by decide +kernel
theorem dL_law_692 : decode cL_law 692 = .ok (.invokevirtual 91, 3) := by decide +kernel
theorem dL_law_695 : decode cL_law 695 = .ok (.aload_n 2, 1) := by decide +kernel
theorem dL_law_696 : decode cL_law 696 = .ok (.aload_n 0, 1) := by decide +kernel
theorem dL_law_697 : decode cL_law 697 = .ok (.iload_n 3, 1) := by decide +kernel
theorem dL_law_698 : decode cL_law 698 = .ok (.iconst 1, 1) := by decide +kernel
theorem dL_law_699 : decode cL_law 699 = .ok (.iadd, 1) := by decide +kernel
theorem dL_law_700 : decode cL_law 700 = .ok (.iaload, 1) := by decide +kernel
theorem dL_law_701 : decode cL_law 701 = .ok (.aload_n 0, 1) := by decide +kernel
theorem dL_law_702 : decode cL_law 702 = .ok (.iload_n 3, 1) := by decide +kernel
theorem dL_law_703 : decode cL_law 703 = .ok (.iconst 2, 1) := by decide +kernel
theorem dL_law_704 : decode cL_law 704 = .ok (.iadd, 1) := by decide +kernel
theorem dL_law_705 : decode cL_law 705 = .ok (.iaload, 1) := by decide +kernel
theorem dL_law_706 : decode cL_law 706 = .ok (.invokevirtual 94, 3) := by decide +kernel
theorem dL_law_709 : decode cL_law 709 = .ok (.if_icmp .eq 157, 3) := by decide +kernel
theorem dL_law_712 : decode cL_law 712 = .ok (.iconst 0, 1) := by decide +kernel
theorem dL_law_713 : decode cL_law 713 = .ok (.ireturn, 1) := by decide +kernel
theorem dL_law_714 : decode cL_law 714 = .ok (.aload_n 1, 1) := by decide +kernel
theorem dL_law_715 : decode cL_law 715 = .ok (.invokevirtual 95, 3) := by decide +kernel
theorem dL_law_718 : decode cL_law 718 = .ok (.aload_n 2, 1) := by decide +kernel
theorem dL_law_719 : decode cL_law 719 = .ok (.invokevirtual 99, 3) := by decide +kernel
theorem dL_law_722 : decode cL_law 722 = .ok (.lcmp, 1) := by decide +kernel
theorem dL_law_723 : decode cL_law 723 = .ok (.ifCond .eq 143, 3) := by decide +kernel
theorem dL_law_726 : decode cL_law 726 = .ok (.iconst 0, 1) := by decide +kernel
theorem dL_law_727 : decode cL_law 727 = .ok (.ireturn, 1) := by decide +kernel
theorem dL_law_728 : decode cL_law 728 = .ok (.aload_n 1, 1) := by decide +kernel
theorem dL_law_729 : decode cL_law 729 = .ok (.aload_n 0, 1) := by decide +kernel
theorem dL_law_730 : decode cL_law 730 = .ok (.iload_n 3, 1) := by decide +kernel
theorem dL_law_731 : decode cL_law 731 = .ok (.iconst 1, 1) := by decide +kernel
theorem dL_law_732 : decode cL_law 732 = .ok (.iadd, 1) := by decide +kernel
theorem dL_law_733 : decode cL_law 733 = .ok (.iaload, 1) := by decide +kernel
theorem dL_law_734 : decode cL_law 734 = .ok (.aload_n 0, 1) := by decide +kernel
theorem dL_law_735 : decode cL_law 735 = .ok (.iload_n 3, 1) := by decide +kernel
theorem dL_law_736 : decode cL_law 736 = .ok (.iconst 2, 1) := by decide +kernel
theorem dL_law_737 : decode cL_law 737 = .ok (.iadd, 1) := by decide +kernel
theorem dL_law_738 : decode cL_law 738 = .ok (.iaload, 1) := by decide +kernel
theorem dL_law_739 : decode cL_law 739 = .ok (.invokevirtual 100, 3) := by decide +kernel
theorem dL_law_742 : decode cL_law 742 = .ok (.aload_n 2, 1) := by decide +kernel
theorem dL_law_743 : decode cL_law 743 = .ok (.aload_n 0, 1) := by decide +kernel
theorem dL_law_744 : decode cL_law 744 = .ok (.iload_n 3, 1) := by decide +kernel
theorem dL_law_745 : decode cL_law 745 = .ok (.iconst 1, 1) := by decide +kernel
theorem dL_law_746 : decode cL_law 746 = .ok (.iadd, 1) := by decide +kernel
theorem dL_law_747 : decode cL_law 747 = .ok (.iaload, 1) := by decide +kernel
theorem dL_law_748 : decode cL_law 748 = .ok (.aload_n 0, 1) := by decide +kernel
theorem dL_law_749 : decode cL_law 749 = .ok (.iload_n 3, 1) := by decide +kernel
theorem dL_law_750 : decode cL_law 750 = .ok (.iconst 2, 1) := by decide +kernel
theorem dL_law_751 : decode cL_law 751 = .ok (.iadd, 1) := by decide +kernel
theorem dL_law_752 : decode cL_law 752 = .ok (.iaload, 1) := by decide +kernel
theorem dL_law_753 : decode cL_law 753 = .ok (.invokevirtual 103, 3) := by decide +kernel
theorem dL_law_756 : decode cL_law 756 = .ok (.if_icmp .eq 110, 3) := by decide +kernel
theorem dL_law_759 : decode cL_law 759 = .ok (.iconst 0, 1) := by decide +kernel
theorem dL_law_760 : decode cL_law 760 = .ok (.ireturn, 1) := by decide +kernel
theorem dL_law_761 : decode cL_law 761 = .ok (.aload_n 1, 1) := by decide +kernel
theorem dL_law_762 : decode cL_law 762 = .ok (.aload_n 0, 1) := by decide +kernel
theorem dL_law_763 : decode cL_law 763 = .ok (.iload_n 3, 1) := by decide +kernel
theorem dL_law_764 : decode cL_law 764 = .ok (.iconst 1, 1) := by decide +kernel
theorem dL_law_765 : decode cL_law 765 = .ok (.iadd, 1) := by decide +kernel
theorem dL_law_766 : decode cL_law 766 = .ok (.iaload, 1) := by decide +kernel
theorem dL_law_767 : decode cL_law 767 = .ok (.aload_n 0, 1) := by decide +kernel
theorem dL_law_768 : decode cL_law 768 = .ok (.iload_n 3, 1) := by decide +kernel
theorem dL_law_769 : decode cL_law 769 = .ok (.iconst 2, 1) := by decide +kernel
theorem dL_law_770 : decode cL_law 770 = .ok (.iadd, 1) := by decide +kernel
theorem dL_law_771 : decode cL_law 771 = .ok (.iaload, 1) := by decide +kernel
theorem dL_law_772 : decode cL_law 772 = .ok (.invokevirtual 104, 3) := by decide +kernel
theorem dL_law_775 : decode cL_law 775 = .ok (.aload_n 2, 1) := by decide +kernel
theorem dL_law_776 : decode cL_law 776 = .ok (.aload_n 0, 1) := by decide +kernel
theorem dL_law_777 : decode cL_law 777 = .ok (.iload_n 3, 1) := by decide +kernel
theorem dL_law_778 : decode cL_law 778 = .ok (.iconst 1, 1) := by decide +kernel
theorem dL_law_779 : decode cL_law 779 = .ok (.iadd, 1) := by decide +kernel
theorem dL_law_780 : decode cL_law 780 = .ok (.iaload, 1) := by decide +kernel
theorem dL_law_781 : decode cL_law 781 = .ok (.aload_n 0, 1) := by decide +kernel
theorem dL_law_782 : decode cL_law 782 = .ok (.iload_n 3, 1) := by decide +kernel
theorem dL_law_783 : decode cL_law 783 = .ok (.iconst 2, 1) := by decide +kernel
theorem dL_law_784 : decode cL_law 784 = .ok (.iadd, 1) := by decide +kernel
theorem dL_law_785 : decode cL_law 785 = .ok (.iaload, 1) := by decide +kernel
theorem dL_law_786 : decode cL_law 786 = .ok (.invokevirtual 107, 3) := by decide +kernel
theorem dL_law_789 : decode cL_law 789 = .ok (.if_icmp .eq 77, 3) := by decide +kernel
theorem dL_law_792 : decode cL_law 792 = .ok (.iconst 0, 1) := by decide +kernel
theorem dL_law_793 : decode cL_law 793 = .ok (.ireturn, 1) := by decide +kernel
theorem dL_law_794 : decode cL_law 794 = .ok (.aload_n 1, 1) := by decide +kernel
theorem dL_law_795 : decode cL_law 795 = .ok (.aload_n 0, 1) := by decide +kernel
theorem dL_law_796 : decode cL_law 796 = .ok (.iload_n 3, 1) := by decide +kernel
theorem dL_law_797 : decode cL_law 797 = .ok (.iconst 1, 1) := by decide +kernel
theorem dL_law_798 : decode cL_law 798 = .ok (.iadd, 1) := by decide +kernel
theorem dL_law_799 : decode cL_law 799 = .ok (.iaload, 1) := by decide +kernel
theorem dL_law_800 : decode cL_law 800 = .ok (.aload_n 0, 1) := by decide +kernel
theorem dL_law_801 : decode cL_law 801 = .ok (.iload_n 3, 1) := by decide +kernel
theorem dL_law_802 : decode cL_law 802 = .ok (.iconst 2, 1) := by decide +kernel
theorem dL_law_803 : decode cL_law 803 = .ok (.iadd, 1) := by decide +kernel
theorem dL_law_804 : decode cL_law 804 = .ok (.iaload, 1) := by decide +kernel
theorem dL_law_805 : decode cL_law 805 = .ok (.ifCond .eq 7, 3) := by decide +kernel
theorem dL_law_808 : decode cL_law 808 = .ok (.iconst 1, 1) := by decide +kernel
theorem dL_law_809 : decode cL_law 809 = .ok (.goto 4, 3) := by decide +kernel
theorem dL_law_812 : decode cL_law 812 = .ok (.iconst 0, 1) := by decide +kernel
theorem dL_law_813 : decode cL_law 813 = .ok (.invokevirtual 108, 3) := by decide +kernel
theorem dL_law_816 : decode cL_law 816 = .ok (.aload_n 2, 1) := by decide +kernel
theorem dL_law_817 : decode cL_law 817 = .ok (.aload_n 0, 1) := by decide +kernel
theorem dL_law_818 : decode cL_law 818 = .ok (.iload_n 3, 1) := by decide +kernel
theorem dL_law_819 : decode cL_law 819 = .ok (.iconst 1, 1) := by decide +kernel
theorem dL_law_820 : decode cL_law 820 = .ok (.iadd, 1) := by decide +kernel
theorem dL_law_821 : decode cL_law 821 = .ok (.iaload, 1) := by decide +kernel
theorem dL_law_822 : decode cL_law 822 = .ok (.aload_n 0, 1) := by decide +kernel
theorem dL_law_823 : decode cL_law 823 = .ok (.iload_n 3, 1) := by decide +kernel
theorem dL_law_824 : decode cL_law 824 = .ok (.iconst 2, 1) := by decide +kernel
theorem dL_law_825 : decode cL_law 825 = .ok (.iadd, 1) := by decide +kernel
theorem dL_law_826 : decode cL_law 826 = .ok (.iaload, 1) := by decide +kernel
theorem dL_law_827 : decode cL_law 827 = .ok (.ifCond .eq 7, 3) := by decide +kernel
theorem dL_law_830 : decode cL_law 830 = .ok (.iconst 1, 1) := by decide +kernel
theorem dL_law_831 : decode cL_law 831 = .ok (.goto 4, 3) := by decide +kernel
theorem dL_law_834 : decode cL_law 834 = .ok (.iconst 0, 1) := by decide +kernel
theorem dL_law_835 : decode cL_law 835 = .ok (.invokevirtual 112, 3) := by decide +kernel
theorem dL_law_838 : decode cL_law 838 = .ok (.if_icmp .eq 28, 3) := by decide +kernel
theorem dL_law_841 : decode cL_law 841 = .ok (.iconst 0, 1) := by decide +kernel
theorem dL_law_842 : decode cL_law 842 = .ok (.ireturn, 1) := by decide +kernel
theorem dL_law_843 : decode cL_law 843 = .ok (.aload_n 1, 1) := by decide +kernel
theorem dL_law_844 : decode cL_law 844 = .ok (.aload_n 0, 1) := by decide +kernel
theorem dL_law_845 : decode cL_law 845 = .ok (.iload_n 3, 1) := by decide +kernel
theorem dL_law_846 : decode cL_law 846 = .ok (.iconst 1, 1) := by decide +kernel
theorem dL_law_847 : decode cL_law 847 = .ok (.iadd, 1) := by decide +kernel
theorem dL_law_848 : decode cL_law 848 = .ok (.iaload, 1) := by decide +kernel
theorem dL_law_849 : decode cL_law 849 = .ok (.invokevirtual 113, 3) := by decide +kernel
theorem dL_law_852 : decode cL_law 852 = .ok (.aload_n 2, 1) := by decide +kernel
theorem dL_law_853 : decode cL_law 853 = .ok (.aload_n 0, 1) := by decide +kernel
theorem dL_law_854 : decode cL_law 854 = .ok (.iload_n 3, 1) := by decide +kernel
theorem dL_law_855 : decode cL_law 855 = .ok (.iconst 1, 1) := by decide +kernel
theorem dL_law_856 : decode cL_law 856 = .ok (.iadd, 1) := by decide +kernel
theorem dL_law_857 : decode cL_law 857 = .ok (.iaload, 1) := by decide +kernel
theorem dL_law_858 : decode cL_law 858 = .ok (.invokevirtual 116, 3) := by decide +kernel
theorem dL_law_861 : decode cL_law 861 = .ok (.if_icmp .eq 5, 3) := by decide +kernel
theorem dL_law_864 : decode cL_law 864 = .ok (.iconst 0, 1) := by decide +kernel
theorem dL_law_865 : decode cL_law 865 = .ok (.ireturn, 1) := by decide +kernel
theorem dL_law_866 : decode cL_law 866 = .ok (.iinc 3 5, 3) := by decide +kernel
theorem dL_law_869 : decode cL_law 869 = .ok (.goto (-851), 3) := by decide +kernel
theorem dL_law_872 : decode cL_law 872 = .ok (.iconst 1, 1) := by decide +kernel
theorem dL_law_873 : decode cL_law 873 = .ok (.ireturn, 1) := by decide +kernel
/-! THE CLAIM OUT OF ONE WALK OF THE LAW'S BODY. Your part is whole_start (and what it stands on); all else here is the same for every law, but numbers. -/
def R_law : String := "SectorViewLaw"
def lw_P (b : Addr) (xs : List Int32) (args : Array Value) (s : State) : Prop := args = #[.ref b] ∧ s.IntsAt b xs ∧ xs.length ≤ 2560 ∧ (Jvm.Cond.and given_1 narrow_1).before args s = true
def lw_Q (_ : Array Value) (s : State) (o : Outcome) (t : State) : Prop := o = .returned (some (.int 1)) ∧ Framed s o t [] 600000 7302250
def lw_Z (below : List Frame) (a : Array Value) (s : State) : State → Prop := fun t => ∃ o, t.status = .running ∧ Ended t below o ∧ lw_Q a s o t
/-- the law's own end, with 1 on the stack, nothing written that was there before, its room as the claim has it -/
theorem lw_ret {p : Program} {l : Launch} {e : Env} {s : State} {m : MethodId} {below : List Frame} {meth : Method} {c : Code} {b : Nat} (hx : p.tables.exec = Jvm.exec) (hb : c.code = code) (hr : meth.sig.returnType = ret) (hlocks : meth.locks = false) {pc : Nat} {H : Heap} {ls : Array Slot} (hdg : decode code pc = .ok (.ireturn, 1)) : W p l e room_1 s m #[Value.ref b] below meth c H [] 600000 7302250 (lw_Z below #[Value.ref b] s) (F0 m pc ls [.int 1]) := by
  intro T hT X
  obtain ⟨fs, hret, hrun, hended, hW, hframe⟩ := X.leave (v := some (.int 1)) (hlocks := hlocks) (fun h => by rw [hr] at h; cases h)
  have hmeth' : T.vm.method? m = some meth := X.method'
  refine ⟨T.setFrames fs, ?_, .returned (some (.int 1)), hrun, hended, rfl, ⟨_, rfl⟩, hW, hframe⟩
  jvm_step X.here [X.here.top, hx, hb, hdg, hmeth', hr, ret, narrow_b1]
  (try refine ⟨rfl, ?_⟩); (try refine ⟨rfl, ?_⟩)
  first | (intro acts; rw [hret _ acts rfl rfl rfl]) | rw [hret _ _ rfl rfl rfl]
  exact Steps.refl _
/-- what holds at the law's entry: the machine, the code, the tables' words (any of lw_tbl by 'hts w (by decide +kernel)'), the script of L ints xs at the cell b, what the Statement gives of the start (any of its parts by flat_of_before) -/
def lw_At (p : Program) (s : State) (m : MethodId) (meth : Method) (c : Code) (b L : Nat) (xs : Nat → Int32) : Prop :=
  p.tables.exec = Jvm.exec ∧ c.code = code ∧ meth.sig.returnType = ret ∧ c.maxLocals = 4 ∧ s.vm.findClass R_law = some m.cls ∧ (∀ w ∈ lw_tbl, w.before #[Value.ref b] s = true) ∧ va_X b L xs s s.heap ∧ b < s.heap.size ∧ meth.locks = false ∧ (Jvm.Cond.and given_1 narrow_1).before #[Value.ref b] s = true
def sv_LW (p : Program) (s : State) (m : MethodId) (meth : Method) (c : Code) (b L : Nat) (xs : Nat → Int32) (G : sv_G) (B : Nat) : Prop := lw_At p s m meth c b L xs ∧ sv_Cx G B s s.heap ∧ B = s.heap.size
set_option maxHeartbeats 4000000 in
set_option maxRecDepth 100000 in
theorem lk_L_law_866 {p : Program} {l : Launch} {e : Env} {s : State} {m : MethodId} {below : List Frame} {meth : Method} {c : Code} {G : sv_G} {B b L : Nat} {xs : Nat → Int32} (K : sv_LW p s m meth c b L xs G B) {r : Int32} (hr1 : r = 1) {hE : sv_H} {h0 : sv_H} (hQ1 : sv_sz hE - sv_sz h0 ≤ 600000) (hQ2 : sv_sl hE - sv_sl h0 ≤ 7302250) {k18 : Nat → Nat → Int32 → sv_H → Option (Int32 × sv_H)} (hk18 : ∀ {x1 : Nat} {x2 : Nat} {x3 : Int32} {h : sv_H}, k18 x1 x2 x3 h = some (r, hE) → sv_le h0 h → ∀ {H : Heap} {locs : List Loc} {ls : Array Slot}, sv_R G vwCl sv_ft B h H → va_S (fun q => B ≤ q) s.heap H locs → lv_has ls 4 [(0, .ref b), (1, .ref x1), (2, .ref x2), (3, .int x3)] → W p l e room_1 s m #[Value.ref b] below meth c H locs (sv_sz h - sv_sz h0) (sv_sl h - sv_sl h0) (lw_Z below #[Value.ref b] s) (F0 m 18 ls [])) (hm18 : ∀ {hq : sv_H} {x1 : Nat} {x2 : Nat} {x3 : Int32} {h : sv_H}, sv_le hq h → sv_fr sv_le hq (k18 x1 x2 x3 h)) {x1 : Nat} {x2 : Nat} {x3 : Int32} {h : sv_H} (hw : fn_L_law_866 xs L k18 x1 x2 x3 h = some (r, hE)) (hM : sv_le h0 h) {H : Heap} {locs : List Loc} {ls : Array Slot} (hR : sv_R G vwCl sv_ft B h H) (hS : va_S (fun q => B ≤ q) s.heap H locs) (hl : lv_has ls 4 [(0, .ref b), (1, .ref x1), (2, .ref x2), (3, .int x3)]) : W p l e room_1 s m #[Value.ref b] below meth c H locs (sv_sz h - sv_sz h0) (sv_sl h - sv_sl h0) (lw_Z below #[Value.ref b] s) (F0 m 866 ls []) := by
  obtain ⟨⟨hx, hb, hr, hml, hown, hts0, hX, hbl, hlk, hgv⟩, hC, hBe⟩ := id K
  have hts : ∀ w ∈ sv_tb, w.before #[Value.ref b] s = true := fun w h => hts0 w (List.mem_filter.mp h).1
  have hBs : B ≤ s.heap.size := Nat.le_of_eq hBe
  have hbA : ¬ B ≤ b := by omega
  have hm := fr_L_law_866 hm18 (sv_le.refl h) r hE hw
  unfold fn_L_law_866 at hw
  refine lv_iinc (v := x3 + 5) (lv' := [(3, .int (x3 + 5)), (0, .ref b), (1, .ref x1), (2, .ref x2)]) hx hb dL_law_866 hl (k := 3) rfl rfl (by decide) rfl (fun ls hl => ?_)
  refine lv_goto (tgt := 18) hx hb dL_law_869 (by decide) ?_
  exact hk18 hw hM hR hS (lv_sub hl [1, 2, 3, 0] rfl)
set_option maxHeartbeats 4000000 in
set_option maxRecDepth 100000 in
theorem lk_L_law_436 {p : Program} {l : Launch} {e : Env} {s : State} {m : MethodId} {below : List Frame} {meth : Method} {c : Code} {G : sv_G} {B b L : Nat} {xs : Nat → Int32} (K : sv_LW p s m meth c b L xs G B) {r : Int32} (hr1 : r = 1) {hE : sv_H} {h0 : sv_H} (hQ1 : sv_sz hE - sv_sz h0 ≤ 600000) (hQ2 : sv_sl hE - sv_sl h0 ≤ 7302250) {k18 : Nat → Nat → Int32 → sv_H → Option (Int32 × sv_H)} (hk18 : ∀ {x1 : Nat} {x2 : Nat} {x3 : Int32} {h : sv_H}, k18 x1 x2 x3 h = some (r, hE) → sv_le h0 h → ∀ {H : Heap} {locs : List Loc} {ls : Array Slot}, sv_R G vwCl sv_ft B h H → va_S (fun q => B ≤ q) s.heap H locs → lv_has ls 4 [(0, .ref b), (1, .ref x1), (2, .ref x2), (3, .int x3)] → W p l e room_1 s m #[Value.ref b] below meth c H locs (sv_sz h - sv_sz h0) (sv_sl h - sv_sl h0) (lw_Z below #[Value.ref b] s) (F0 m 18 ls [])) (hm18 : ∀ {hq : sv_H} {x1 : Nat} {x2 : Nat} {x3 : Int32} {h : sv_H}, sv_le hq h → sv_fr sv_le hq (k18 x1 x2 x3 h)) {x1 : Nat} {x2 : Nat} {x3 : Int32} {s0 : Int32} {s1 : Nat} {s2 : Int32} {s3 : Int32} {s4 : Int32} {s5 : Int32} {h : sv_H} (hw : fn_L_law_436 xs L k18 x1 x2 x3 s0 s1 s2 s3 s4 s5 h = some (r, hE)) (hM : sv_le h0 h) {H : Heap} {locs : List Loc} {ls : Array Slot} (hR : sv_R G vwCl sv_ft B h H) (hS : va_S (fun q => B ≤ q) s.heap H locs) (hl : lv_has ls 4 [(0, .ref b), (1, .ref x1), (2, .ref x2), (3, .int x3)]) : W p l e room_1 s m #[Value.ref b] below meth c H locs (sv_sz h - sv_sz h0) (sv_sl h - sv_sl h0) (lw_Z below #[Value.ref b] s) (F0 m 436 ls [.int s5, .int s4, .int s3, .int s2, .ref s1, .int s0]) := by
  obtain ⟨⟨hx, hb, hr, hml, hown, hts0, hX, hbl, hlk, hgv⟩, hC, hBe⟩ := id K
  have hts : ∀ w ∈ sv_tb, w.before #[Value.ref b] s = true := fun w h => hts0 w (List.mem_filter.mp h).1
  have hBs : B ≤ s.heap.size := Nat.le_of_eq hBe
  have hbA : ¬ B ≤ b := by omega
  have hm := fr_L_law_436 hm18 (sv_le.refl h) r hE hw
  unfold fn_L_law_436 at hw
  obtain ⟨r1, h2, hv1, hw⟩ := sv_b_some hw
  refine sv_call (va_runV (As := [.int s2, .int s3, .int s4, .int s5]) (rest := [.int s0]) ⟨hx, hb, hml, hown, hts⟩ (mt_X17_addInput l G B hv1) (cwV 4 hts (sv_gV wd_2145 wd_2146 wd_2147 wd_144 wd_2148) rfl rfl rfl (by decide +kernel) ⟨Nat.le_of_ble_eq_true rfl, Nat.le_of_ble_eq_true rfl⟩) ⟨sv_blind, sv_recv hC.1 hR (ci := 17) (sv_go hv1).1 (by decide) rfl, fun U hU hW => sv_pre hC hR hS hBs hU hW⟩ rfl rfl hl.1 rfl (lv_room (Nat.le_of_ble_eq_true rfl)) dL_law_436 ⟨by have q1 := hm.1; have q2 := hM.1; show sv_sz h - sv_sz h0 + 0 ≤ 600000; omega, by have q1 := hm.2.1; have q2 := hM.2.1; show sv_sl h - sv_sl h0 + 0 ≤ 7302250; omega⟩) hS (fun H locs hR hS => ?_)
  have hM := hM.trans (fr_X17_addInput hv1).le
  have hm := (fr_X17_addInput hv1).mono hm
  refine sv_csE (cells' := sv_sz h2 - sv_sz h0) (slots' := sv_sl h2 - sv_sl h0) (by have q := (fr_X17_addInput hv1).1; omega) (by have q := (fr_X17_addInput hv1).2.1; omega) rfl ?_
  refine lv_icmp_eq (tgt := 866) hx hb dL_law_439 (by decide) (fun cc => ?_) (fun cc => ?_)
  · have hw := sv_ift cc hw
    exact lk_L_law_866 K hr1 hQ1 hQ2 hk18 hm18 hw hM hR hS (lv_sub hl [0, 1, 2, 3] rfl)
  · have hw := sv_iff cc hw
    refine lv_iconst (v := 0) hx hb dL_law_442 (by decide) ?_
    exact absurd ((sv_ret hw).1.trans hr1) (by decide)
set_option maxHeartbeats 4000000 in
set_option maxRecDepth 100000 in
theorem lk_L_law_404 {p : Program} {l : Launch} {e : Env} {s : State} {m : MethodId} {below : List Frame} {meth : Method} {c : Code} {G : sv_G} {B b L : Nat} {xs : Nat → Int32} (K : sv_LW p s m meth c b L xs G B) {r : Int32} (hr1 : r = 1) {hE : sv_H} {h0 : sv_H} (hQ1 : sv_sz hE - sv_sz h0 ≤ 600000) (hQ2 : sv_sl hE - sv_sl h0 ≤ 7302250) {k18 : Nat → Nat → Int32 → sv_H → Option (Int32 × sv_H)} (hk18 : ∀ {x1 : Nat} {x2 : Nat} {x3 : Int32} {h : sv_H}, k18 x1 x2 x3 h = some (r, hE) → sv_le h0 h → ∀ {H : Heap} {locs : List Loc} {ls : Array Slot}, sv_R G vwCl sv_ft B h H → va_S (fun q => B ≤ q) s.heap H locs → lv_has ls 4 [(0, .ref b), (1, .ref x1), (2, .ref x2), (3, .int x3)] → W p l e room_1 s m #[Value.ref b] below meth c H locs (sv_sz h - sv_sz h0) (sv_sl h - sv_sl h0) (lw_Z below #[Value.ref b] s) (F0 m 18 ls [])) (hm18 : ∀ {hq : sv_H} {x1 : Nat} {x2 : Nat} {x3 : Int32} {h : sv_H}, sv_le hq h → sv_fr sv_le hq (k18 x1 x2 x3 h)) {x1 : Nat} {x2 : Nat} {x3 : Int32} {s0 : Nat} {s1 : Int32} {s2 : Int32} {s3 : Int32} {s4 : Int32} {h : sv_H} (hw : fn_L_law_404 xs L k18 x1 x2 x3 s0 s1 s2 s3 s4 h = some (r, hE)) (hM : sv_le h0 h) {H : Heap} {locs : List Loc} {ls : Array Slot} (hR : sv_R G vwCl sv_ft B h H) (hS : va_S (fun q => B ≤ q) s.heap H locs) (hl : lv_has ls 4 [(0, .ref b), (1, .ref x1), (2, .ref x2), (3, .int x3)]) : W p l e room_1 s m #[Value.ref b] below meth c H locs (sv_sz h - sv_sz h0) (sv_sl h - sv_sl h0) (lw_Z below #[Value.ref b] s) (F0 m 404 ls [.int s4, .int s3, .int s2, .int s1, .ref s0]) := by
  obtain ⟨⟨hx, hb, hr, hml, hown, hts0, hX, hbl, hlk, hgv⟩, hC, hBe⟩ := id K
  have hts : ∀ w ∈ sv_tb, w.before #[Value.ref b] s = true := fun w h => hts0 w (List.mem_filter.mp h).1
  have hBs : B ≤ s.heap.size := Nat.le_of_eq hBe
  have hbA : ¬ B ≤ b := by omega
  have hm := fr_L_law_404 hm18 (sv_le.refl h) r hE hw
  unfold fn_L_law_404 at hw
  obtain ⟨r1, h2, hv1, hw⟩ := sv_b_some hw
  have hc2 := fr_X12_addInput hv1
  have hm : sv_le h2 hE := by
    refine (?_ : sv_fr sv_le h2 _) _ _ hw
    have hs := sv_le.refl h2
    refine fr_bd (fun _ => ?_)
    refine fr_bd (fun _ => ?_)
    refine fr_bd (fun _ => ?_)
    refine fr_bd (fun _ => ?_)
    refine fr_if ?_ ?_
    · exact fr_L_law_436 hm18 hs
    · exact fr_L_law_436 hm18 hs
  refine sv_call (va_runV (As := [.int s1, .int s2, .int s3, .int s4]) (rest := []) ⟨hx, hb, hml, hown, hts⟩ (mt_X12_addInput l G B hv1) (cwV 4 hts (sv_gV wd_1097 wd_1098 wd_1099 wd_131 wd_1100) rfl rfl rfl (by decide +kernel) ⟨Nat.le_of_ble_eq_true rfl, Nat.le_of_ble_eq_true rfl⟩) ⟨sv_blind, sv_recv hC.1 hR (ci := 12) (sv_go hv1).1 (by decide) rfl, fun U hU hW => sv_pre hC hR hS hBs hU hW⟩ rfl rfl hl.1 rfl (lv_room (Nat.le_of_ble_eq_true rfl)) dL_law_404 ⟨by have q1 := hm.1; have q2 := hM.1; have q3 := hc2.1; show sv_sz h - sv_sz h0 + (sv_sz h2 - sv_sz h) ≤ 600000; omega, by have q1 := hm.2.1; have q2 := hM.2.1; have q3 := hc2.2.1; show sv_sl h - sv_sl h0 + (sv_sl h2 - sv_sl h) ≤ 7302250; omega⟩) hS (fun H locs hR hS => ?_)
  refine sv_csE (cells' := sv_sz h2 - sv_sz h0) (slots' := sv_sl h2 - sv_sl h0) (by have q2 := hM.1; have q3 := hc2.1; omega) (by have q2 := hM.2.1; have q3 := hc2.2.1; omega) rfl ?_
  have hM := hM.trans hc2
  refine lv_aload_n hx hb dL_law_407 rfl (lv_at hl 2 rfl) ?_
  refine lv_aload_n hx hb dL_law_408 rfl (lv_at hl 0 rfl) ?_
  refine lv_iload_n hx hb dL_law_409 rfl (lv_at hl 3 rfl) ?_
  refine lv_iconst (v := 1) hx hb dL_law_410 (by decide) ?_
  refine lv_iadd hx hb dL_law_411 ?_
  obtain ⟨v3, hv, hw⟩ := sv_bd hw
  obtain ⟨hin, hv⟩ := sv_if hv
  refine va_sld hx hb hX hbl hbA hS hin dL_law_412 ?_
  rw [hv]
  refine lv_aload_n hx hb dL_law_413 rfl (lv_at hl 0 rfl) ?_
  refine lv_iload_n hx hb dL_law_414 rfl (lv_at hl 3 rfl) ?_
  refine lv_iconst (v := 2) hx hb dL_law_415 (by decide) ?_
  refine lv_iadd hx hb dL_law_416 ?_
  obtain ⟨v4, hv, hw⟩ := sv_bd hw
  obtain ⟨hin, hv⟩ := sv_if hv
  refine va_sld hx hb hX hbl hbA hS hin dL_law_417 ?_
  rw [hv]
  refine lv_aload_n hx hb dL_law_418 rfl (lv_at hl 0 rfl) ?_
  refine lv_iload_n hx hb dL_law_419 rfl (lv_at hl 3 rfl) ?_
  refine lv_iconst (v := 3) hx hb dL_law_420 (by decide) ?_
  refine lv_iadd hx hb dL_law_421 ?_
  obtain ⟨v5, hv, hw⟩ := sv_bd hw
  obtain ⟨hin, hv⟩ := sv_if hv
  refine va_sld hx hb hX hbl hbA hS hin dL_law_422 ?_
  rw [hv]
  refine lv_aload_n hx hb dL_law_423 rfl (lv_at hl 0 rfl) ?_
  refine lv_iload_n hx hb dL_law_424 rfl (lv_at hl 3 rfl) ?_
  refine lv_iconst (v := 4) hx hb dL_law_425 (by decide) ?_
  refine lv_iadd hx hb dL_law_426 ?_
  obtain ⟨v6, hv, hw⟩ := sv_bd hw
  obtain ⟨hin, hv⟩ := sv_if hv
  refine va_sld hx hb hX hbl hbA hS hin dL_law_427 ?_
  rw [hv]
  refine lv_if_eq (tgt := 435) hx hb dL_law_428 (by decide) (fun cc => ?_) (fun cc => ?_)
  · have hw := sv_ift cc hw
    refine lv_iconst (v := 0) hx hb dL_law_435 (by decide) ?_
    exact lk_L_law_436 K hr1 hQ1 hQ2 hk18 hm18 hw hM hR hS (lv_sub hl [0, 1, 2, 3] rfl)
  · have hw := sv_iff cc hw
    refine lv_iconst (v := 1) hx hb dL_law_431 (by decide) ?_
    refine lv_goto (tgt := 436) hx hb dL_law_432 (by decide) ?_
    exact lk_L_law_436 K hr1 hQ1 hQ2 hk18 hm18 hw hM hR hS (lv_sub hl [0, 1, 2, 3] rfl)
set_option maxHeartbeats 4000000 in
set_option maxRecDepth 100000 in
theorem lk_L_law_551 {p : Program} {l : Launch} {e : Env} {s : State} {m : MethodId} {below : List Frame} {meth : Method} {c : Code} {G : sv_G} {B b L : Nat} {xs : Nat → Int32} (K : sv_LW p s m meth c b L xs G B) {r : Int32} (hr1 : r = 1) {hE : sv_H} {h0 : sv_H} (hQ1 : sv_sz hE - sv_sz h0 ≤ 600000) (hQ2 : sv_sl hE - sv_sl h0 ≤ 7302250) {k18 : Nat → Nat → Int32 → sv_H → Option (Int32 × sv_H)} (hk18 : ∀ {x1 : Nat} {x2 : Nat} {x3 : Int32} {h : sv_H}, k18 x1 x2 x3 h = some (r, hE) → sv_le h0 h → ∀ {H : Heap} {locs : List Loc} {ls : Array Slot}, sv_R G vwCl sv_ft B h H → va_S (fun q => B ≤ q) s.heap H locs → lv_has ls 4 [(0, .ref b), (1, .ref x1), (2, .ref x2), (3, .int x3)] → W p l e room_1 s m #[Value.ref b] below meth c H locs (sv_sz h - sv_sz h0) (sv_sl h - sv_sl h0) (lw_Z below #[Value.ref b] s) (F0 m 18 ls [])) (hm18 : ∀ {hq : sv_H} {x1 : Nat} {x2 : Nat} {x3 : Int32} {h : sv_H}, sv_le hq h → sv_fr sv_le hq (k18 x1 x2 x3 h)) {x1 : Nat} {x2 : Nat} {x3 : Int32} {s0 : Int32} {s1 : Nat} {s2 : Int32} {s3 : Int32} {s4 : Int32} {s5 : Int32} {h : sv_H} (hw : fn_L_law_551 xs L k18 x1 x2 x3 s0 s1 s2 s3 s4 s5 h = some (r, hE)) (hM : sv_le h0 h) {H : Heap} {locs : List Loc} {ls : Array Slot} (hR : sv_R G vwCl sv_ft B h H) (hS : va_S (fun q => B ≤ q) s.heap H locs) (hl : lv_has ls 4 [(0, .ref b), (1, .ref x1), (2, .ref x2), (3, .int x3)]) : W p l e room_1 s m #[Value.ref b] below meth c H locs (sv_sz h - sv_sz h0) (sv_sl h - sv_sl h0) (lw_Z below #[Value.ref b] s) (F0 m 551 ls [.int s5, .int s4, .int s3, .int s2, .ref s1, .int s0]) := by
  obtain ⟨⟨hx, hb, hr, hml, hown, hts0, hX, hbl, hlk, hgv⟩, hC, hBe⟩ := id K
  have hts : ∀ w ∈ sv_tb, w.before #[Value.ref b] s = true := fun w h => hts0 w (List.mem_filter.mp h).1
  have hBs : B ≤ s.heap.size := Nat.le_of_eq hBe
  have hbA : ¬ B ≤ b := by omega
  have hm := fr_L_law_551 hm18 (sv_le.refl h) r hE hw
  unfold fn_L_law_551 at hw
  obtain ⟨r1, h2, hv1, hw⟩ := sv_b_some hw
  refine sv_call (va_runV (As := [.int s2, .int s3, .int s4, .int s5]) (rest := [.int s0]) ⟨hx, hb, hml, hown, hts⟩ (mt_X17_stepBy l G B hv1) (cwV 4 hts (sv_gV wd_2219 wd_2220 wd_2221 wd_144 wd_2222) rfl rfl rfl (by decide +kernel) ⟨Nat.le_of_ble_eq_true rfl, Nat.le_of_ble_eq_true rfl⟩) ⟨sv_blind, sv_recv hC.1 hR (ci := 17) (sv_go hv1).1 (by decide) rfl, fun U hU hW => sv_pre hC hR hS hBs hU hW⟩ rfl rfl hl.1 rfl (lv_room (Nat.le_of_ble_eq_true rfl)) dL_law_551 ⟨by have q1 := hm.1; have q2 := hM.1; show sv_sz h - sv_sz h0 + 0 ≤ 600000; omega, by have q1 := hm.2.1; have q2 := hM.2.1; show sv_sl h - sv_sl h0 + 0 ≤ 7302250; omega⟩) hS (fun H locs hR hS => ?_)
  have hM := hM.trans (fr_X17_stepBy hv1).le
  have hm := (fr_X17_stepBy hv1).mono hm
  refine sv_csE (cells' := sv_sz h2 - sv_sz h0) (slots' := sv_sl h2 - sv_sl h0) (by have q := (fr_X17_stepBy hv1).1; omega) (by have q := (fr_X17_stepBy hv1).2.1; omega) rfl ?_
  refine lv_icmp_eq (tgt := 866) hx hb dL_law_554 (by decide) (fun cc => ?_) (fun cc => ?_)
  · have hw := sv_ift cc hw
    exact lk_L_law_866 K hr1 hQ1 hQ2 hk18 hm18 hw hM hR hS (lv_sub hl [0, 1, 2, 3] rfl)
  · have hw := sv_iff cc hw
    refine lv_iconst (v := 0) hx hb dL_law_557 (by decide) ?_
    exact absurd ((sv_ret hw).1.trans hr1) (by decide)
set_option maxHeartbeats 4000000 in
set_option maxRecDepth 100000 in
theorem lk_L_law_519 {p : Program} {l : Launch} {e : Env} {s : State} {m : MethodId} {below : List Frame} {meth : Method} {c : Code} {G : sv_G} {B b L : Nat} {xs : Nat → Int32} (K : sv_LW p s m meth c b L xs G B) {r : Int32} (hr1 : r = 1) {hE : sv_H} {h0 : sv_H} (hQ1 : sv_sz hE - sv_sz h0 ≤ 600000) (hQ2 : sv_sl hE - sv_sl h0 ≤ 7302250) {k18 : Nat → Nat → Int32 → sv_H → Option (Int32 × sv_H)} (hk18 : ∀ {x1 : Nat} {x2 : Nat} {x3 : Int32} {h : sv_H}, k18 x1 x2 x3 h = some (r, hE) → sv_le h0 h → ∀ {H : Heap} {locs : List Loc} {ls : Array Slot}, sv_R G vwCl sv_ft B h H → va_S (fun q => B ≤ q) s.heap H locs → lv_has ls 4 [(0, .ref b), (1, .ref x1), (2, .ref x2), (3, .int x3)] → W p l e room_1 s m #[Value.ref b] below meth c H locs (sv_sz h - sv_sz h0) (sv_sl h - sv_sl h0) (lw_Z below #[Value.ref b] s) (F0 m 18 ls [])) (hm18 : ∀ {hq : sv_H} {x1 : Nat} {x2 : Nat} {x3 : Int32} {h : sv_H}, sv_le hq h → sv_fr sv_le hq (k18 x1 x2 x3 h)) {x1 : Nat} {x2 : Nat} {x3 : Int32} {s0 : Nat} {s1 : Int32} {s2 : Int32} {s3 : Int32} {s4 : Int32} {h : sv_H} (hw : fn_L_law_519 xs L k18 x1 x2 x3 s0 s1 s2 s3 s4 h = some (r, hE)) (hM : sv_le h0 h) {H : Heap} {locs : List Loc} {ls : Array Slot} (hR : sv_R G vwCl sv_ft B h H) (hS : va_S (fun q => B ≤ q) s.heap H locs) (hl : lv_has ls 4 [(0, .ref b), (1, .ref x1), (2, .ref x2), (3, .int x3)]) : W p l e room_1 s m #[Value.ref b] below meth c H locs (sv_sz h - sv_sz h0) (sv_sl h - sv_sl h0) (lw_Z below #[Value.ref b] s) (F0 m 519 ls [.int s4, .int s3, .int s2, .int s1, .ref s0]) := by
  obtain ⟨⟨hx, hb, hr, hml, hown, hts0, hX, hbl, hlk, hgv⟩, hC, hBe⟩ := id K
  have hts : ∀ w ∈ sv_tb, w.before #[Value.ref b] s = true := fun w h => hts0 w (List.mem_filter.mp h).1
  have hBs : B ≤ s.heap.size := Nat.le_of_eq hBe
  have hbA : ¬ B ≤ b := by omega
  have hm := fr_L_law_519 hm18 (sv_le.refl h) r hE hw
  unfold fn_L_law_519 at hw
  obtain ⟨r1, h2, hv1, hw⟩ := sv_b_some hw
  refine sv_call (va_runV (As := [.int s1, .int s2, .int s3, .int s4]) (rest := []) ⟨hx, hb, hml, hown, hts⟩ (mt_X12_stepBy l G B hv1) (cwV 4 hts (sv_gV wd_1249 wd_1250 wd_1251 wd_131 wd_1252) rfl rfl rfl (by decide +kernel) ⟨Nat.le_of_ble_eq_true rfl, Nat.le_of_ble_eq_true rfl⟩) ⟨sv_blind, sv_recv hC.1 hR (ci := 12) (sv_go hv1).1 (by decide) rfl, fun U hU hW => sv_pre hC hR hS hBs hU hW⟩ rfl rfl hl.1 rfl (lv_room (Nat.le_of_ble_eq_true rfl)) dL_law_519 ⟨by have q1 := hm.1; have q2 := hM.1; show sv_sz h - sv_sz h0 + 0 ≤ 600000; omega, by have q1 := hm.2.1; have q2 := hM.2.1; show sv_sl h - sv_sl h0 + 0 ≤ 7302250; omega⟩) hS (fun H locs hR hS => ?_)
  have hM := hM.trans (fr_X12_stepBy hv1).le
  have hm := (fr_X12_stepBy hv1).mono hm
  refine sv_csE (cells' := sv_sz h2 - sv_sz h0) (slots' := sv_sl h2 - sv_sl h0) (by have q := (fr_X12_stepBy hv1).1; omega) (by have q := (fr_X12_stepBy hv1).2.1; omega) rfl ?_
  refine lv_aload_n hx hb dL_law_522 rfl (lv_at hl 2 rfl) ?_
  refine lv_aload_n hx hb dL_law_523 rfl (lv_at hl 0 rfl) ?_
  refine lv_iload_n hx hb dL_law_524 rfl (lv_at hl 3 rfl) ?_
  refine lv_iconst (v := 1) hx hb dL_law_525 (by decide) ?_
  refine lv_iadd hx hb dL_law_526 ?_
  obtain ⟨v3, hv, hw⟩ := sv_bd hw
  obtain ⟨hin, hv⟩ := sv_if hv
  refine va_sld hx hb hX hbl hbA hS hin dL_law_527 ?_
  rw [hv]
  refine lv_aload_n hx hb dL_law_528 rfl (lv_at hl 0 rfl) ?_
  refine lv_iload_n hx hb dL_law_529 rfl (lv_at hl 3 rfl) ?_
  refine lv_iconst (v := 2) hx hb dL_law_530 (by decide) ?_
  refine lv_iadd hx hb dL_law_531 ?_
  obtain ⟨v4, hv, hw⟩ := sv_bd hw
  obtain ⟨hin, hv⟩ := sv_if hv
  refine va_sld hx hb hX hbl hbA hS hin dL_law_532 ?_
  rw [hv]
  refine lv_aload_n hx hb dL_law_533 rfl (lv_at hl 0 rfl) ?_
  refine lv_iload_n hx hb dL_law_534 rfl (lv_at hl 3 rfl) ?_
  refine lv_iconst (v := 3) hx hb dL_law_535 (by decide) ?_
  refine lv_iadd hx hb dL_law_536 ?_
  obtain ⟨v5, hv, hw⟩ := sv_bd hw
  obtain ⟨hin, hv⟩ := sv_if hv
  refine va_sld hx hb hX hbl hbA hS hin dL_law_537 ?_
  rw [hv]
  refine lv_aload_n hx hb dL_law_538 rfl (lv_at hl 0 rfl) ?_
  refine lv_iload_n hx hb dL_law_539 rfl (lv_at hl 3 rfl) ?_
  refine lv_iconst (v := 4) hx hb dL_law_540 (by decide) ?_
  refine lv_iadd hx hb dL_law_541 ?_
  obtain ⟨v6, hv, hw⟩ := sv_bd hw
  obtain ⟨hin, hv⟩ := sv_if hv
  refine va_sld hx hb hX hbl hbA hS hin dL_law_542 ?_
  rw [hv]
  refine lv_if_eq (tgt := 550) hx hb dL_law_543 (by decide) (fun cc => ?_) (fun cc => ?_)
  · have hw := sv_ift cc hw
    refine lv_iconst (v := 0) hx hb dL_law_550 (by decide) ?_
    exact lk_L_law_551 K hr1 hQ1 hQ2 hk18 hm18 hw hM hR hS (lv_sub hl [0, 1, 2, 3] rfl)
  · have hw := sv_iff cc hw
    refine lv_iconst (v := 1) hx hb dL_law_546 (by decide) ?_
    refine lv_goto (tgt := 551) hx hb dL_law_547 (by decide) ?_
    exact lk_L_law_551 K hr1 hQ1 hQ2 hk18 hm18 hw hM hR hS (lv_sub hl [0, 1, 2, 3] rfl)
set_option maxHeartbeats 4000000 in
set_option maxRecDepth 100000 in
theorem lk_L_law_835 {p : Program} {l : Launch} {e : Env} {s : State} {m : MethodId} {below : List Frame} {meth : Method} {c : Code} {G : sv_G} {B b L : Nat} {xs : Nat → Int32} (K : sv_LW p s m meth c b L xs G B) {r : Int32} (hr1 : r = 1) {hE : sv_H} {h0 : sv_H} (hQ1 : sv_sz hE - sv_sz h0 ≤ 600000) (hQ2 : sv_sl hE - sv_sl h0 ≤ 7302250) {k18 : Nat → Nat → Int32 → sv_H → Option (Int32 × sv_H)} (hk18 : ∀ {x1 : Nat} {x2 : Nat} {x3 : Int32} {h : sv_H}, k18 x1 x2 x3 h = some (r, hE) → sv_le h0 h → ∀ {H : Heap} {locs : List Loc} {ls : Array Slot}, sv_R G vwCl sv_ft B h H → va_S (fun q => B ≤ q) s.heap H locs → lv_has ls 4 [(0, .ref b), (1, .ref x1), (2, .ref x2), (3, .int x3)] → W p l e room_1 s m #[Value.ref b] below meth c H locs (sv_sz h - sv_sz h0) (sv_sl h - sv_sl h0) (lw_Z below #[Value.ref b] s) (F0 m 18 ls [])) (hm18 : ∀ {hq : sv_H} {x1 : Nat} {x2 : Nat} {x3 : Int32} {h : sv_H}, sv_le hq h → sv_fr sv_le hq (k18 x1 x2 x3 h)) {x1 : Nat} {x2 : Nat} {x3 : Int32} {s0 : Int32} {s1 : Nat} {s2 : Int32} {s3 : Int32} {h : sv_H} (hw : fn_L_law_835 xs L k18 x1 x2 x3 s0 s1 s2 s3 h = some (r, hE)) (hM : sv_le h0 h) {H : Heap} {locs : List Loc} {ls : Array Slot} (hR : sv_R G vwCl sv_ft B h H) (hS : va_S (fun q => B ≤ q) s.heap H locs) (hl : lv_has ls 4 [(0, .ref b), (1, .ref x1), (2, .ref x2), (3, .int x3)]) : W p l e room_1 s m #[Value.ref b] below meth c H locs (sv_sz h - sv_sz h0) (sv_sl h - sv_sl h0) (lw_Z below #[Value.ref b] s) (F0 m 835 ls [.int s3, .int s2, .ref s1, .int s0]) := by
  obtain ⟨⟨hx, hb, hr, hml, hown, hts0, hX, hbl, hlk, hgv⟩, hC, hBe⟩ := id K
  have hts : ∀ w ∈ sv_tb, w.before #[Value.ref b] s = true := fun w h => hts0 w (List.mem_filter.mp h).1
  have hBs : B ≤ s.heap.size := Nat.le_of_eq hBe
  have hbA : ¬ B ≤ b := by omega
  have hm := fr_L_law_835 hm18 (sv_le.refl h) r hE hw
  unfold fn_L_law_835 at hw
  obtain ⟨r1, h2, hv1, hw⟩ := sv_b_some hw
  refine sv_call (va_runV (As := [.int s2, .int s3]) (rest := [.int s0]) ⟨hx, hb, hml, hown, hts⟩ (mt_X17_byteOf l G B hv1) (cwV 2 hts (sv_gV wd_2007 wd_2008 wd_2009 wd_144 wd_2010) rfl rfl rfl (by decide +kernel) ⟨Nat.le_of_ble_eq_true rfl, Nat.le_of_ble_eq_true rfl⟩) ⟨sv_blind, sv_recv hC.1 hR (ci := 17) (sv_go hv1).1 (by decide) rfl, fun U hU hW => sv_pre hC hR hS hBs hU hW⟩ rfl rfl hl.1 rfl (lv_room (Nat.le_of_ble_eq_true rfl)) dL_law_835 ⟨by have q1 := hm.1; have q2 := hM.1; show sv_sz h - sv_sz h0 + 0 ≤ 600000; omega, by have q1 := hm.2.1; have q2 := hM.2.1; show sv_sl h - sv_sl h0 + 0 ≤ 7302250; omega⟩) hS (fun H locs hR hS => ?_)
  have hM := hM.trans (fr_X17_byteOf hv1).le
  have hm := (fr_X17_byteOf hv1).mono hm
  refine sv_csE (cells' := sv_sz h2 - sv_sz h0) (slots' := sv_sl h2 - sv_sl h0) (by have q := (fr_X17_byteOf hv1).1; omega) (by have q := (fr_X17_byteOf hv1).2.1; omega) rfl ?_
  refine lv_icmp_eq (tgt := 866) hx hb dL_law_838 (by decide) (fun cc => ?_) (fun cc => ?_)
  · have hw := sv_ift cc hw
    exact lk_L_law_866 K hr1 hQ1 hQ2 hk18 hm18 hw hM hR hS (lv_sub hl [0, 1, 2, 3] rfl)
  · have hw := sv_iff cc hw
    refine lv_iconst (v := 0) hx hb dL_law_841 (by decide) ?_
    exact absurd ((sv_ret hw).1.trans hr1) (by decide)
set_option maxHeartbeats 4000000 in
set_option maxRecDepth 100000 in
theorem lk_L_law_813 {p : Program} {l : Launch} {e : Env} {s : State} {m : MethodId} {below : List Frame} {meth : Method} {c : Code} {G : sv_G} {B b L : Nat} {xs : Nat → Int32} (K : sv_LW p s m meth c b L xs G B) {r : Int32} (hr1 : r = 1) {hE : sv_H} {h0 : sv_H} (hQ1 : sv_sz hE - sv_sz h0 ≤ 600000) (hQ2 : sv_sl hE - sv_sl h0 ≤ 7302250) {k18 : Nat → Nat → Int32 → sv_H → Option (Int32 × sv_H)} (hk18 : ∀ {x1 : Nat} {x2 : Nat} {x3 : Int32} {h : sv_H}, k18 x1 x2 x3 h = some (r, hE) → sv_le h0 h → ∀ {H : Heap} {locs : List Loc} {ls : Array Slot}, sv_R G vwCl sv_ft B h H → va_S (fun q => B ≤ q) s.heap H locs → lv_has ls 4 [(0, .ref b), (1, .ref x1), (2, .ref x2), (3, .int x3)] → W p l e room_1 s m #[Value.ref b] below meth c H locs (sv_sz h - sv_sz h0) (sv_sl h - sv_sl h0) (lw_Z below #[Value.ref b] s) (F0 m 18 ls [])) (hm18 : ∀ {hq : sv_H} {x1 : Nat} {x2 : Nat} {x3 : Int32} {h : sv_H}, sv_le hq h → sv_fr sv_le hq (k18 x1 x2 x3 h)) {x1 : Nat} {x2 : Nat} {x3 : Int32} {s0 : Nat} {s1 : Int32} {s2 : Int32} {h : sv_H} (hw : fn_L_law_813 xs L k18 x1 x2 x3 s0 s1 s2 h = some (r, hE)) (hM : sv_le h0 h) {H : Heap} {locs : List Loc} {ls : Array Slot} (hR : sv_R G vwCl sv_ft B h H) (hS : va_S (fun q => B ≤ q) s.heap H locs) (hl : lv_has ls 4 [(0, .ref b), (1, .ref x1), (2, .ref x2), (3, .int x3)]) : W p l e room_1 s m #[Value.ref b] below meth c H locs (sv_sz h - sv_sz h0) (sv_sl h - sv_sl h0) (lw_Z below #[Value.ref b] s) (F0 m 813 ls [.int s2, .int s1, .ref s0]) := by
  obtain ⟨⟨hx, hb, hr, hml, hown, hts0, hX, hbl, hlk, hgv⟩, hC, hBe⟩ := id K
  have hts : ∀ w ∈ sv_tb, w.before #[Value.ref b] s = true := fun w h => hts0 w (List.mem_filter.mp h).1
  have hBs : B ≤ s.heap.size := Nat.le_of_eq hBe
  have hbA : ¬ B ≤ b := by omega
  have hm := fr_L_law_813 hm18 (sv_le.refl h) r hE hw
  unfold fn_L_law_813 at hw
  obtain ⟨r1, h2, hv1, hw⟩ := sv_b_some hw
  refine sv_call (va_runV (As := [.int s1, .int s2]) (rest := []) ⟨hx, hb, hml, hown, hts⟩ (mt_X12_byteOf l G B hv1) (cwV 2 hts (sv_gV wd_1387 wd_1388 wd_1389 wd_131 wd_1390) rfl rfl rfl (by decide +kernel) ⟨Nat.le_of_ble_eq_true rfl, Nat.le_of_ble_eq_true rfl⟩) ⟨sv_blind, sv_recv hC.1 hR (ci := 12) (sv_go hv1).1 (by decide) rfl, fun U hU hW => sv_pre hC hR hS hBs hU hW⟩ rfl rfl hl.1 rfl (lv_room (Nat.le_of_ble_eq_true rfl)) dL_law_813 ⟨by have q1 := hm.1; have q2 := hM.1; show sv_sz h - sv_sz h0 + 0 ≤ 600000; omega, by have q1 := hm.2.1; have q2 := hM.2.1; show sv_sl h - sv_sl h0 + 0 ≤ 7302250; omega⟩) hS (fun H locs hR hS => ?_)
  have hM := hM.trans (fr_X12_byteOf hv1).le
  have hm := (fr_X12_byteOf hv1).mono hm
  refine sv_csE (cells' := sv_sz h2 - sv_sz h0) (slots' := sv_sl h2 - sv_sl h0) (by have q := (fr_X12_byteOf hv1).1; omega) (by have q := (fr_X12_byteOf hv1).2.1; omega) rfl ?_
  refine lv_aload_n hx hb dL_law_816 rfl (lv_at hl 2 rfl) ?_
  refine lv_aload_n hx hb dL_law_817 rfl (lv_at hl 0 rfl) ?_
  refine lv_iload_n hx hb dL_law_818 rfl (lv_at hl 3 rfl) ?_
  refine lv_iconst (v := 1) hx hb dL_law_819 (by decide) ?_
  refine lv_iadd hx hb dL_law_820 ?_
  obtain ⟨v3, hv, hw⟩ := sv_bd hw
  obtain ⟨hin, hv⟩ := sv_if hv
  refine va_sld hx hb hX hbl hbA hS hin dL_law_821 ?_
  rw [hv]
  refine lv_aload_n hx hb dL_law_822 rfl (lv_at hl 0 rfl) ?_
  refine lv_iload_n hx hb dL_law_823 rfl (lv_at hl 3 rfl) ?_
  refine lv_iconst (v := 2) hx hb dL_law_824 (by decide) ?_
  refine lv_iadd hx hb dL_law_825 ?_
  obtain ⟨v4, hv, hw⟩ := sv_bd hw
  obtain ⟨hin, hv⟩ := sv_if hv
  refine va_sld hx hb hX hbl hbA hS hin dL_law_826 ?_
  rw [hv]
  refine lv_if_eq (tgt := 834) hx hb dL_law_827 (by decide) (fun cc => ?_) (fun cc => ?_)
  · have hw := sv_ift cc hw
    refine lv_iconst (v := 0) hx hb dL_law_834 (by decide) ?_
    exact lk_L_law_835 K hr1 hQ1 hQ2 hk18 hm18 hw hM hR hS (lv_sub hl [0, 1, 2, 3] rfl)
  · have hw := sv_iff cc hw
    refine lv_iconst (v := 1) hx hb dL_law_830 (by decide) ?_
    refine lv_goto (tgt := 835) hx hb dL_law_831 (by decide) ?_
    exact lk_L_law_835 K hr1 hQ1 hQ2 hk18 hm18 hw hM hR hS (lv_sub hl [0, 1, 2, 3] rfl)
set_option maxHeartbeats 4000000 in
set_option maxRecDepth 100000 in
theorem lk_L_law_18b {p : Program} {l : Launch} {e : Env} {s : State} {m : MethodId} {below : List Frame} {meth : Method} {c : Code} {G : sv_G} {B b L : Nat} {xs : Nat → Int32} (K : sv_LW p s m meth c b L xs G B) {r : Int32} (hr1 : r = 1) {hE : sv_H} {h0 : sv_H} (hQ1 : sv_sz hE - sv_sz h0 ≤ 600000) (hQ2 : sv_sl hE - sv_sl h0 ≤ 7302250) {k18 : Nat → Nat → Int32 → sv_H → Option (Int32 × sv_H)} (hk18 : ∀ {x1 : Nat} {x2 : Nat} {x3 : Int32} {h : sv_H}, k18 x1 x2 x3 h = some (r, hE) → sv_le h0 h → ∀ {H : Heap} {locs : List Loc} {ls : Array Slot}, sv_R G vwCl sv_ft B h H → va_S (fun q => B ≤ q) s.heap H locs → lv_has ls 4 [(0, .ref b), (1, .ref x1), (2, .ref x2), (3, .int x3)] → W p l e room_1 s m #[Value.ref b] below meth c H locs (sv_sz h - sv_sz h0) (sv_sl h - sv_sl h0) (lw_Z below #[Value.ref b] s) (F0 m 18 ls [])) (hm18 : ∀ {hq : sv_H} {x1 : Nat} {x2 : Nat} {x3 : Int32} {h : sv_H}, sv_le hq h → sv_fr sv_le hq (k18 x1 x2 x3 h)) {x1 : Nat} {x2 : Nat} {x3 : Int32} {h : sv_H} (hw : fn_L_law_18b xs L k18 x1 x2 x3 h = some (r, hE)) (hM : sv_le h0 h) {H : Heap} {locs : List Loc} {ls : Array Slot} (hR : sv_R G vwCl sv_ft B h H) (hS : va_S (fun q => B ≤ q) s.heap H locs) (hl : lv_has ls 4 [(0, .ref b), (1, .ref x1), (2, .ref x2), (3, .int x3)]) : W p l e room_1 s m #[Value.ref b] below meth c H locs (sv_sz h - sv_sz h0) (sv_sl h - sv_sl h0) (lw_Z below #[Value.ref b] s) (F0 m 18 ls []) := by
  obtain ⟨⟨hx, hb, hr, hml, hown, hts0, hX, hbl, hlk, hgv⟩, hC, hBe⟩ := id K
  have hts : ∀ w ∈ sv_tb, w.before #[Value.ref b] s = true := fun w h => hts0 w (List.mem_filter.mp h).1
  have hBs : B ≤ s.heap.size := Nat.le_of_eq hBe
  have hbA : ¬ B ≤ b := by omega
  have hm := fr_L_law_18b hm18 (sv_le.refl h) r hE hw
  unfold fn_L_law_18b at hw
  refine lv_iload_n hx hb dL_law_18 rfl (lv_at hl 3 rfl) ?_
  refine lv_aload_n hx hb dL_law_19 rfl (lv_at hl 0 rfl) ?_
  refine va_slen hx hb hX hbl hbA hS dL_law_20 ?_
  refine lv_iconst (v := 5) hx hb dL_law_21 (by decide) ?_
  refine lv_isub hx hb dL_law_22 ?_
  refine lv_icmp_gt (tgt := 872) hx hb dL_law_23 (by decide) (fun cc => ?_) (fun cc => ?_)
  · have hw := sv_ift cc hw
    refine lv_iconst (v := 1) hx hb dL_law_872 (by decide) ?_
    obtain ⟨-, rfl⟩ := sv_ret hw
    refine va_forget (fun q hq => hBe ▸ hS.2.2 q hq) ?_
    refine W.widen (k := 600000) (n := 7302250) hQ1 hQ2 ?_
    exact lw_ret hx hb hr hlk dL_law_873
  · have hw := sv_iff cc hw
    refine lv_aload_n hx hb dL_law_26 rfl (lv_at hl 0 rfl) ?_
    refine lv_iload_n hx hb dL_law_27 rfl (lv_at hl 3 rfl) ?_
    obtain ⟨v1, hv, hw⟩ := sv_bd hw
    obtain ⟨hin, hv⟩ := sv_if hv
    refine va_sld hx hb hX hbl hbA hS hin dL_law_28 ?_
    rw [hv]
    refine lv_bipush (v := 31) hx hb dL_law_29 (by decide) ?_
    refine lv_iand hx hb dL_law_31 ?_
    refine sv_em ((v1 &&& 31) = 0) (fun c0 => ?_) (fun c0 => ?_)
    · have hw := sv_ift c0 hw
      refine lv_tableIn (tgt := 140) (off := 108) hx hb dL_law_32 (by rw [c0]; decide) (by rw [c0]; decide) (by rw [c0]; rfl) (by decide) ?_
      refine lv_aload_n hx hb dL_law_140 rfl (lv_at hl 1 rfl) ?_
      refine lv_aload_n hx hb dL_law_141 rfl (lv_at hl 0 rfl) ?_
      refine lv_iload_n hx hb dL_law_142 rfl (lv_at hl 3 rfl) ?_
      refine lv_iconst (v := 1) hx hb dL_law_143 (by decide) ?_
      refine lv_iadd hx hb dL_law_144 ?_
      obtain ⟨v2, hv, hw⟩ := sv_bd hw
      obtain ⟨hin, hv⟩ := sv_if hv
      refine va_sld hx hb hX hbl hbA hS hin dL_law_145 ?_
      rw [hv]
      refine lv_i2l hx hb dL_law_146 rfl ?_
      refine lv_bipush (v := 32) hx hb dL_law_147 (by decide) ?_
      refine lv_lshl hx hb dL_law_149 rfl ?_
      refine lv_aload_n hx hb dL_law_150 rfl (lv_at hl 0 rfl) ?_
      refine lv_iload_n hx hb dL_law_151 rfl (lv_at hl 3 rfl) ?_
      refine lv_iconst (v := 2) hx hb dL_law_152 (by decide) ?_
      refine lv_iadd hx hb dL_law_153 ?_
      obtain ⟨v3, hv, hw⟩ := sv_bd hw
      obtain ⟨hin, hv⟩ := sv_if hv
      refine va_sld hx hb hX hbl hbA hS hin dL_law_154 ?_
      rw [hv]
      refine lv_i2l hx hb dL_law_155 rfl ?_
      refine lv_ldc2 (v := 4294967295) hx hb hown (hts _ wd_2319) dL_law_156 ?_
      refine lv_land hx hb dL_law_159 ?_
      refine lv_lor hx hb dL_law_160 ?_
      refine lv_aload_n hx hb dL_law_161 rfl (lv_at hl 0 rfl) ?_
      refine lv_iload_n hx hb dL_law_162 rfl (lv_at hl 3 rfl) ?_
      refine lv_iconst (v := 3) hx hb dL_law_163 (by decide) ?_
      refine lv_iadd hx hb dL_law_164 ?_
      obtain ⟨v4, hv, hw⟩ := sv_bd hw
      obtain ⟨hin, hv⟩ := sv_if hv
      refine va_sld hx hb hX hbl hbA hS hin dL_law_165 ?_
      rw [hv]
      obtain ⟨r5, h6, hv1, hw⟩ := sv_b_some hw
      have hc2 := fr_X12_giveBytes hv1
      have hm : sv_le h6 hE := by
        refine (?_ : sv_fr sv_le h6 _) _ _ hw
        have hs := sv_le.refl h6
        refine fr_bd (fun _ => ?_)
        refine fr_bd (fun _ => ?_)
        refine fr_bd (fun _ => ?_)
        refine fr_cl (fun _ _ e => hs.trans (fr_X17_giveBytes e).le) (fun _ h hs => ?_)
        refine fr_if ?_ ?_
        · exact fr_L_law_866 hm18 hs
        · exact fr_rt hs
      refine sv_call (va_runV (As := [.long (((Int32.toInt64 v2) <<< (Int32.toInt64 32 &&& 63)) ||| ((Int32.toInt64 v3) &&& 4294967295)), .int v4]) (rest := []) ⟨hx, hb, hml, hown, hts⟩ (mt_X12_giveBytes l G B hv1) (cwV 2 hts (sv_gV wd_719 wd_720 wd_721 wd_131 wd_722) rfl rfl rfl (by decide +kernel) ⟨Nat.le_of_ble_eq_true rfl, Nat.le_of_ble_eq_true rfl⟩) ⟨sv_blind, sv_recv hC.1 hR (ci := 12) (sv_go hv1).1 (by decide) rfl, fun U hU hW => sv_pre hC hR hS hBs hU hW⟩ rfl rfl hl.1 rfl (lv_room (Nat.le_of_ble_eq_true rfl)) dL_law_166 ⟨by have q1 := hm.1; have q2 := hM.1; have q3 := hc2.1; show sv_sz h - sv_sz h0 + (sv_sz h6 - sv_sz h) ≤ 600000; omega, by have q1 := hm.2.1; have q2 := hM.2.1; have q3 := hc2.2.1; show sv_sl h - sv_sl h0 + (sv_sl h6 - sv_sl h) ≤ 7302250; omega⟩) hS (fun H locs hR hS => ?_)
      refine sv_csE (cells' := sv_sz h6 - sv_sz h0) (slots' := sv_sl h6 - sv_sl h0) (by have q2 := hM.1; have q3 := hc2.1; omega) (by have q2 := hM.2.1; have q3 := hc2.2.1; omega) rfl ?_
      have hM := hM.trans hc2
      refine lv_aload_n hx hb dL_law_169 rfl (lv_at hl 2 rfl) ?_
      refine lv_aload_n hx hb dL_law_170 rfl (lv_at hl 0 rfl) ?_
      refine lv_iload_n hx hb dL_law_171 rfl (lv_at hl 3 rfl) ?_
      refine lv_iconst (v := 1) hx hb dL_law_172 (by decide) ?_
      refine lv_iadd hx hb dL_law_173 ?_
      obtain ⟨v7, hv, hw⟩ := sv_bd hw
      obtain ⟨hin, hv⟩ := sv_if hv
      refine va_sld hx hb hX hbl hbA hS hin dL_law_174 ?_
      rw [hv]
      refine lv_i2l hx hb dL_law_175 rfl ?_
      refine lv_bipush (v := 32) hx hb dL_law_176 (by decide) ?_
      refine lv_lshl hx hb dL_law_178 rfl ?_
      refine lv_aload_n hx hb dL_law_179 rfl (lv_at hl 0 rfl) ?_
      refine lv_iload_n hx hb dL_law_180 rfl (lv_at hl 3 rfl) ?_
      refine lv_iconst (v := 2) hx hb dL_law_181 (by decide) ?_
      refine lv_iadd hx hb dL_law_182 ?_
      obtain ⟨v8, hv, hw⟩ := sv_bd hw
      obtain ⟨hin, hv⟩ := sv_if hv
      refine va_sld hx hb hX hbl hbA hS hin dL_law_183 ?_
      rw [hv]
      refine lv_i2l hx hb dL_law_184 rfl ?_
      refine lv_ldc2 (v := 4294967295) hx hb hown (hts _ wd_2319) dL_law_185 ?_
      refine lv_land hx hb dL_law_188 ?_
      refine lv_lor hx hb dL_law_189 ?_
      refine lv_aload_n hx hb dL_law_190 rfl (lv_at hl 0 rfl) ?_
      refine lv_iload_n hx hb dL_law_191 rfl (lv_at hl 3 rfl) ?_
      refine lv_iconst (v := 3) hx hb dL_law_192 (by decide) ?_
      refine lv_iadd hx hb dL_law_193 ?_
      obtain ⟨v9, hv, hw⟩ := sv_bd hw
      obtain ⟨hin, hv⟩ := sv_if hv
      refine va_sld hx hb hX hbl hbA hS hin dL_law_194 ?_
      rw [hv]
      obtain ⟨r10, h11, hv2, hw⟩ := sv_b_some hw
      refine sv_call (va_runV (As := [.long (((Int32.toInt64 v7) <<< (Int32.toInt64 32 &&& 63)) ||| ((Int32.toInt64 v8) &&& 4294967295)), .int v9]) (rest := [.int r5]) ⟨hx, hb, hml, hown, hts⟩ (mt_X17_giveBytes l G B hv2) (cwV 2 hts (sv_gV wd_1779 wd_1780 wd_1781 wd_144 wd_1782) rfl rfl rfl (by decide +kernel) ⟨Nat.le_of_ble_eq_true rfl, Nat.le_of_ble_eq_true rfl⟩) ⟨sv_blind, sv_recv hC.1 hR (ci := 17) (sv_go hv2).1 (by decide) rfl, fun U hU hW => sv_pre hC hR hS hBs hU hW⟩ rfl rfl hl.1 rfl (lv_room (Nat.le_of_ble_eq_true rfl)) dL_law_195 ⟨by have q1 := hm.1; have q2 := hM.1; show sv_sz h6 - sv_sz h0 + 0 ≤ 600000; omega, by have q1 := hm.2.1; have q2 := hM.2.1; show sv_sl h6 - sv_sl h0 + 0 ≤ 7302250; omega⟩) hS (fun H locs hR hS => ?_)
      have hM := hM.trans (fr_X17_giveBytes hv2).le
      have hm := (fr_X17_giveBytes hv2).mono hm
      refine sv_csE (cells' := sv_sz h11 - sv_sz h0) (slots' := sv_sl h11 - sv_sl h0) (by have q := (fr_X17_giveBytes hv2).1; omega) (by have q := (fr_X17_giveBytes hv2).2.1; omega) rfl ?_
      refine lv_icmp_eq (tgt := 866) hx hb dL_law_198 (by decide) (fun cc => ?_) (fun cc => ?_)
      · have hw := sv_ift cc hw
        exact lk_L_law_866 K hr1 hQ1 hQ2 hk18 hm18 hw hM hR hS (lv_sub hl [0, 1, 2, 3] rfl)
      · have hw := sv_iff cc hw
        refine lv_iconst (v := 0) hx hb dL_law_201 (by decide) ?_
        exact absurd ((sv_ret hw).1.trans hr1) (by decide)
    have hw := sv_iff c0 hw
    refine sv_em ((v1 &&& 31) = 1) (fun c1 => ?_) (fun c1 => ?_)
    · have hw := sv_ift c1 hw
      refine lv_tableIn (tgt := 203) (off := 171) hx hb dL_law_32 (by rw [c1]; decide) (by rw [c1]; decide) (by rw [c1]; rfl) (by decide) ?_
      refine lv_aload_n hx hb dL_law_203 rfl (lv_at hl 1 rfl) ?_
      refine lv_aload_n hx hb dL_law_204 rfl (lv_at hl 0 rfl) ?_
      refine lv_iload_n hx hb dL_law_205 rfl (lv_at hl 3 rfl) ?_
      refine lv_iconst (v := 1) hx hb dL_law_206 (by decide) ?_
      refine lv_iadd hx hb dL_law_207 ?_
      obtain ⟨v12, hv, hw⟩ := sv_bd hw
      obtain ⟨hin, hv⟩ := sv_if hv
      refine va_sld hx hb hX hbl hbA hS hin dL_law_208 ?_
      rw [hv]
      obtain ⟨r13, h14, hv3, hw⟩ := sv_b_some hw
      refine sv_call (va_runV (As := [.int v12]) (rest := []) ⟨hx, hb, hml, hown, hts⟩ (mt_X12_cutBytes l G B hv3) (cwV 1 hts (sv_gV wd_747 wd_748 wd_749 wd_131 wd_750) rfl rfl rfl (by decide +kernel) ⟨Nat.le_of_ble_eq_true rfl, Nat.le_of_ble_eq_true rfl⟩) ⟨sv_blind, sv_recv hC.1 hR (ci := 12) (sv_go hv3).1 (by decide) rfl, fun U hU hW => sv_pre hC hR hS hBs hU hW⟩ rfl rfl hl.1 rfl (lv_room (Nat.le_of_ble_eq_true rfl)) dL_law_209 ⟨by have q1 := hm.1; have q2 := hM.1; show sv_sz h - sv_sz h0 + 0 ≤ 600000; omega, by have q1 := hm.2.1; have q2 := hM.2.1; show sv_sl h - sv_sl h0 + 0 ≤ 7302250; omega⟩) hS (fun H locs hR hS => ?_)
      have hM := hM.trans (fr_X12_cutBytes hv3).le
      have hm := (fr_X12_cutBytes hv3).mono hm
      refine sv_csE (cells' := sv_sz h14 - sv_sz h0) (slots' := sv_sl h14 - sv_sl h0) (by have q := (fr_X12_cutBytes hv3).1; omega) (by have q := (fr_X12_cutBytes hv3).2.1; omega) rfl ?_
      refine lv_aload_n hx hb dL_law_212 rfl (lv_at hl 2 rfl) ?_
      refine lv_aload_n hx hb dL_law_213 rfl (lv_at hl 0 rfl) ?_
      refine lv_iload_n hx hb dL_law_214 rfl (lv_at hl 3 rfl) ?_
      refine lv_iconst (v := 1) hx hb dL_law_215 (by decide) ?_
      refine lv_iadd hx hb dL_law_216 ?_
      obtain ⟨v15, hv, hw⟩ := sv_bd hw
      obtain ⟨hin, hv⟩ := sv_if hv
      refine va_sld hx hb hX hbl hbA hS hin dL_law_217 ?_
      rw [hv]
      obtain ⟨r16, h17, hv4, hw⟩ := sv_b_some hw
      refine sv_call (va_runV (As := [.int v15]) (rest := [.int r13]) ⟨hx, hb, hml, hown, hts⟩ (mt_X17_cutBytes l G B hv4) (cwV 1 hts (sv_gV wd_1783 wd_1784 wd_1785 wd_144 wd_1786) rfl rfl rfl (by decide +kernel) ⟨Nat.le_of_ble_eq_true rfl, Nat.le_of_ble_eq_true rfl⟩) ⟨sv_blind, sv_recv hC.1 hR (ci := 17) (sv_go hv4).1 (by decide) rfl, fun U hU hW => sv_pre hC hR hS hBs hU hW⟩ rfl rfl hl.1 rfl (lv_room (Nat.le_of_ble_eq_true rfl)) dL_law_218 ⟨by have q1 := hm.1; have q2 := hM.1; show sv_sz h14 - sv_sz h0 + 0 ≤ 600000; omega, by have q1 := hm.2.1; have q2 := hM.2.1; show sv_sl h14 - sv_sl h0 + 0 ≤ 7302250; omega⟩) hS (fun H locs hR hS => ?_)
      have hM := hM.trans (fr_X17_cutBytes hv4).le
      have hm := (fr_X17_cutBytes hv4).mono hm
      refine sv_csE (cells' := sv_sz h17 - sv_sz h0) (slots' := sv_sl h17 - sv_sl h0) (by have q := (fr_X17_cutBytes hv4).1; omega) (by have q := (fr_X17_cutBytes hv4).2.1; omega) rfl ?_
      refine lv_icmp_eq (tgt := 866) hx hb dL_law_221 (by decide) (fun cc => ?_) (fun cc => ?_)
      · have hw := sv_ift cc hw
        exact lk_L_law_866 K hr1 hQ1 hQ2 hk18 hm18 hw hM hR hS (lv_sub hl [0, 1, 2, 3] rfl)
      · have hw := sv_iff cc hw
        refine lv_iconst (v := 0) hx hb dL_law_224 (by decide) ?_
        exact absurd ((sv_ret hw).1.trans hr1) (by decide)
    have hw := sv_iff c1 hw
    refine sv_em ((v1 &&& 31) = 2) (fun c2 => ?_) (fun c2 => ?_)
    · have hw := sv_ift c2 hw
      refine lv_tableIn (tgt := 226) (off := 194) hx hb dL_law_32 (by rw [c2]; decide) (by rw [c2]; decide) (by rw [c2]; rfl) (by decide) ?_
      refine lv_aload_n hx hb dL_law_226 rfl (lv_at hl 1 rfl) ?_
      refine lv_aload_n hx hb dL_law_227 rfl (lv_at hl 0 rfl) ?_
      refine lv_iload_n hx hb dL_law_228 rfl (lv_at hl 3 rfl) ?_
      refine lv_iconst (v := 1) hx hb dL_law_229 (by decide) ?_
      refine lv_iadd hx hb dL_law_230 ?_
      obtain ⟨v18, hv, hw⟩ := sv_bd hw
      obtain ⟨hin, hv⟩ := sv_if hv
      refine va_sld hx hb hX hbl hbA hS hin dL_law_231 ?_
      rw [hv]
      refine lv_aload_n hx hb dL_law_232 rfl (lv_at hl 0 rfl) ?_
      refine lv_iload_n hx hb dL_law_233 rfl (lv_at hl 3 rfl) ?_
      refine lv_iconst (v := 2) hx hb dL_law_234 (by decide) ?_
      refine lv_iadd hx hb dL_law_235 ?_
      obtain ⟨v19, hv, hw⟩ := sv_bd hw
      obtain ⟨hin, hv⟩ := sv_if hv
      refine va_sld hx hb hX hbl hbA hS hin dL_law_236 ?_
      rw [hv]
      obtain ⟨r20, h21, hv5, hw⟩ := sv_b_some hw
      refine sv_call (va_runV (As := [.int v18, .int v19]) (rest := []) ⟨hx, hb, hml, hown, hts⟩ (mt_X12_pokeByte l G B hv5) (cwV 2 hts (sv_gV wd_751 wd_752 wd_753 wd_131 wd_754) rfl rfl rfl (by decide +kernel) ⟨Nat.le_of_ble_eq_true rfl, Nat.le_of_ble_eq_true rfl⟩) ⟨sv_blind, sv_recv hC.1 hR (ci := 12) (sv_go hv5).1 (by decide) rfl, fun U hU hW => sv_pre hC hR hS hBs hU hW⟩ rfl rfl hl.1 rfl (lv_room (Nat.le_of_ble_eq_true rfl)) dL_law_237 ⟨by have q1 := hm.1; have q2 := hM.1; show sv_sz h - sv_sz h0 + 0 ≤ 600000; omega, by have q1 := hm.2.1; have q2 := hM.2.1; show sv_sl h - sv_sl h0 + 0 ≤ 7302250; omega⟩) hS (fun H locs hR hS => ?_)
      have hM := hM.trans (fr_X12_pokeByte hv5).le
      have hm := (fr_X12_pokeByte hv5).mono hm
      refine sv_csE (cells' := sv_sz h21 - sv_sz h0) (slots' := sv_sl h21 - sv_sl h0) (by have q := (fr_X12_pokeByte hv5).1; omega) (by have q := (fr_X12_pokeByte hv5).2.1; omega) rfl ?_
      refine lv_aload_n hx hb dL_law_240 rfl (lv_at hl 2 rfl) ?_
      refine lv_aload_n hx hb dL_law_241 rfl (lv_at hl 0 rfl) ?_
      refine lv_iload_n hx hb dL_law_242 rfl (lv_at hl 3 rfl) ?_
      refine lv_iconst (v := 1) hx hb dL_law_243 (by decide) ?_
      refine lv_iadd hx hb dL_law_244 ?_
      obtain ⟨v22, hv, hw⟩ := sv_bd hw
      obtain ⟨hin, hv⟩ := sv_if hv
      refine va_sld hx hb hX hbl hbA hS hin dL_law_245 ?_
      rw [hv]
      refine lv_aload_n hx hb dL_law_246 rfl (lv_at hl 0 rfl) ?_
      refine lv_iload_n hx hb dL_law_247 rfl (lv_at hl 3 rfl) ?_
      refine lv_iconst (v := 2) hx hb dL_law_248 (by decide) ?_
      refine lv_iadd hx hb dL_law_249 ?_
      obtain ⟨v23, hv, hw⟩ := sv_bd hw
      obtain ⟨hin, hv⟩ := sv_if hv
      refine va_sld hx hb hX hbl hbA hS hin dL_law_250 ?_
      rw [hv]
      obtain ⟨r24, h25, hv6, hw⟩ := sv_b_some hw
      refine sv_call (va_runV (As := [.int v22, .int v23]) (rest := [.int r20]) ⟨hx, hb, hml, hown, hts⟩ (mt_X17_pokeByte l G B hv6) (cwV 2 hts (sv_gV wd_1787 wd_1788 wd_1789 wd_144 wd_1790) rfl rfl rfl (by decide +kernel) ⟨Nat.le_of_ble_eq_true rfl, Nat.le_of_ble_eq_true rfl⟩) ⟨sv_blind, sv_recv hC.1 hR (ci := 17) (sv_go hv6).1 (by decide) rfl, fun U hU hW => sv_pre hC hR hS hBs hU hW⟩ rfl rfl hl.1 rfl (lv_room (Nat.le_of_ble_eq_true rfl)) dL_law_251 ⟨by have q1 := hm.1; have q2 := hM.1; show sv_sz h21 - sv_sz h0 + 0 ≤ 600000; omega, by have q1 := hm.2.1; have q2 := hM.2.1; show sv_sl h21 - sv_sl h0 + 0 ≤ 7302250; omega⟩) hS (fun H locs hR hS => ?_)
      have hM := hM.trans (fr_X17_pokeByte hv6).le
      have hm := (fr_X17_pokeByte hv6).mono hm
      refine sv_csE (cells' := sv_sz h25 - sv_sz h0) (slots' := sv_sl h25 - sv_sl h0) (by have q := (fr_X17_pokeByte hv6).1; omega) (by have q := (fr_X17_pokeByte hv6).2.1; omega) rfl ?_
      refine lv_icmp_eq (tgt := 866) hx hb dL_law_254 (by decide) (fun cc => ?_) (fun cc => ?_)
      · have hw := sv_ift cc hw
        exact lk_L_law_866 K hr1 hQ1 hQ2 hk18 hm18 hw hM hR hS (lv_sub hl [0, 1, 2, 3] rfl)
      · have hw := sv_iff cc hw
        refine lv_iconst (v := 0) hx hb dL_law_257 (by decide) ?_
        exact absurd ((sv_ret hw).1.trans hr1) (by decide)
    have hw := sv_iff c2 hw
    refine sv_em ((v1 &&& 31) = 3) (fun c3 => ?_) (fun c3 => ?_)
    · have hw := sv_ift c3 hw
      refine lv_tableIn (tgt := 259) (off := 227) hx hb dL_law_32 (by rw [c3]; decide) (by rw [c3]; decide) (by rw [c3]; rfl) (by decide) ?_
      refine lv_aload_n hx hb dL_law_259 rfl (lv_at hl 1 rfl) ?_
      obtain ⟨r26, h27, hv7, hw⟩ := sv_b_some hw
      have hc2 := fr_X12_loadMap hv7
      have hm : sv_le h27 hE := by
        refine (?_ : sv_fr sv_le h27 _) _ _ hw
        have hs := sv_le.refl h27
        refine fr_cl (fun _ _ e => hs.trans (fr_X17_loadMap e).le) (fun _ h hs => ?_)
        refine fr_if ?_ ?_
        · exact fr_L_law_866 hm18 hs
        · exact fr_rt hs
      refine sv_call (va_runV (As := []) (rest := []) ⟨hx, hb, hml, hown, hts⟩ (mt_X12_loadMap l G B hv7) (cwV 0 hts (sv_gV wd_755 wd_756 wd_757 wd_131 wd_758) rfl rfl rfl (by decide +kernel) ⟨Nat.le_of_ble_eq_true rfl, Nat.le_of_ble_eq_true rfl⟩) ⟨sv_blind, sv_recv hC.1 hR (ci := 12) (sv_go hv7).1 (by decide) rfl, fun U hU hW => sv_pre hC hR hS hBs hU hW⟩ rfl rfl hl.1 rfl (lv_room (Nat.le_of_ble_eq_true rfl)) dL_law_260 ⟨by have q1 := hm.1; have q2 := hM.1; have q3 := hc2.1; show sv_sz h - sv_sz h0 + (sv_sz h27 - sv_sz h) ≤ 600000; omega, by have q1 := hm.2.1; have q2 := hM.2.1; have q3 := hc2.2.1; show sv_sl h - sv_sl h0 + (sv_sl h27 - sv_sl h) ≤ 7302250; omega⟩) hS (fun H locs hR hS => ?_)
      refine sv_csE (cells' := sv_sz h27 - sv_sz h0) (slots' := sv_sl h27 - sv_sl h0) (by have q2 := hM.1; have q3 := hc2.1; omega) (by have q2 := hM.2.1; have q3 := hc2.2.1; omega) rfl ?_
      have hM := hM.trans hc2
      refine lv_aload_n hx hb dL_law_263 rfl (lv_at hl 2 rfl) ?_
      obtain ⟨r28, h29, hv8, hw⟩ := sv_b_some hw
      refine sv_call (va_runV (As := []) (rest := [.int r26]) ⟨hx, hb, hml, hown, hts⟩ (mt_X17_loadMap l G B hv8) (cwV 0 hts (sv_gV wd_1791 wd_1792 wd_1793 wd_144 wd_1794) rfl rfl rfl (by decide +kernel) ⟨Nat.le_of_ble_eq_true rfl, Nat.le_of_ble_eq_true rfl⟩) ⟨sv_blind, sv_recv hC.1 hR (ci := 17) (sv_go hv8).1 (by decide) rfl, fun U hU hW => sv_pre hC hR hS hBs hU hW⟩ rfl rfl hl.1 rfl (lv_room (Nat.le_of_ble_eq_true rfl)) dL_law_264 ⟨by have q1 := hm.1; have q2 := hM.1; show sv_sz h27 - sv_sz h0 + 0 ≤ 600000; omega, by have q1 := hm.2.1; have q2 := hM.2.1; show sv_sl h27 - sv_sl h0 + 0 ≤ 7302250; omega⟩) hS (fun H locs hR hS => ?_)
      have hM := hM.trans (fr_X17_loadMap hv8).le
      have hm := (fr_X17_loadMap hv8).mono hm
      refine sv_csE (cells' := sv_sz h29 - sv_sz h0) (slots' := sv_sl h29 - sv_sl h0) (by have q := (fr_X17_loadMap hv8).1; omega) (by have q := (fr_X17_loadMap hv8).2.1; omega) rfl ?_
      refine lv_icmp_eq (tgt := 866) hx hb dL_law_267 (by decide) (fun cc => ?_) (fun cc => ?_)
      · have hw := sv_ift cc hw
        exact lk_L_law_866 K hr1 hQ1 hQ2 hk18 hm18 hw hM hR hS (lv_sub hl [0, 1, 2, 3] rfl)
      · have hw := sv_iff cc hw
        refine lv_iconst (v := 0) hx hb dL_law_270 (by decide) ?_
        exact absurd ((sv_ret hw).1.trans hr1) (by decide)
    have hw := sv_iff c3 hw
    refine sv_em ((v1 &&& 31) = 4) (fun c4 => ?_) (fun c4 => ?_)
    · have hw := sv_ift c4 hw
      refine lv_tableIn (tgt := 272) (off := 240) hx hb dL_law_32 (by rw [c4]; decide) (by rw [c4]; decide) (by rw [c4]; rfl) (by decide) ?_
      refine lv_aload_n hx hb dL_law_272 rfl (lv_at hl 1 rfl) ?_
      obtain ⟨r30, h31, hv9, hw⟩ := sv_b_some hw
      have hc2 := fr_X12_loadDemo hv9
      have hm : sv_le h31 hE := by
        refine (?_ : sv_fr sv_le h31 _) _ _ hw
        have hs := sv_le.refl h31
        refine fr_cl (fun _ _ e => hs.trans (fr_X17_loadDemo e).le) (fun _ h hs => ?_)
        refine fr_if ?_ ?_
        · exact fr_L_law_866 hm18 hs
        · exact fr_rt hs
      refine sv_call (va_runV (As := []) (rest := []) ⟨hx, hb, hml, hown, hts⟩ (mt_X12_loadDemo l G B hv9) (cwV 0 hts (sv_gV wd_999 wd_1000 wd_1001 wd_131 wd_1002) rfl rfl rfl (by decide +kernel) ⟨Nat.le_of_ble_eq_true rfl, Nat.le_of_ble_eq_true rfl⟩) ⟨sv_blind, sv_recv hC.1 hR (ci := 12) (sv_go hv9).1 (by decide) rfl, fun U hU hW => sv_pre hC hR hS hBs hU hW⟩ rfl rfl hl.1 rfl (lv_room (Nat.le_of_ble_eq_true rfl)) dL_law_273 ⟨by have q1 := hm.1; have q2 := hM.1; have q3 := hc2.1; show sv_sz h - sv_sz h0 + (sv_sz h31 - sv_sz h) ≤ 600000; omega, by have q1 := hm.2.1; have q2 := hM.2.1; have q3 := hc2.2.1; show sv_sl h - sv_sl h0 + (sv_sl h31 - sv_sl h) ≤ 7302250; omega⟩) hS (fun H locs hR hS => ?_)
      refine sv_csE (cells' := sv_sz h31 - sv_sz h0) (slots' := sv_sl h31 - sv_sl h0) (by have q2 := hM.1; have q3 := hc2.1; omega) (by have q2 := hM.2.1; have q3 := hc2.2.1; omega) rfl ?_
      have hM := hM.trans hc2
      refine lv_aload_n hx hb dL_law_276 rfl (lv_at hl 2 rfl) ?_
      obtain ⟨r32, h33, hv10, hw⟩ := sv_b_some hw
      refine sv_call (va_runV (As := []) (rest := [.int r30]) ⟨hx, hb, hml, hown, hts⟩ (mt_X17_loadDemo l G B hv10) (cwV 0 hts (sv_gV wd_1941 wd_1942 wd_1943 wd_144 wd_1944) rfl rfl rfl (by decide +kernel) ⟨Nat.le_of_ble_eq_true rfl, Nat.le_of_ble_eq_true rfl⟩) ⟨sv_blind, sv_recv hC.1 hR (ci := 17) (sv_go hv10).1 (by decide) rfl, fun U hU hW => sv_pre hC hR hS hBs hU hW⟩ rfl rfl hl.1 rfl (lv_room (Nat.le_of_ble_eq_true rfl)) dL_law_277 ⟨by have q1 := hm.1; have q2 := hM.1; show sv_sz h31 - sv_sz h0 + 0 ≤ 600000; omega, by have q1 := hm.2.1; have q2 := hM.2.1; show sv_sl h31 - sv_sl h0 + 0 ≤ 7302250; omega⟩) hS (fun H locs hR hS => ?_)
      have hM := hM.trans (fr_X17_loadDemo hv10).le
      have hm := (fr_X17_loadDemo hv10).mono hm
      refine sv_csE (cells' := sv_sz h33 - sv_sz h0) (slots' := sv_sl h33 - sv_sl h0) (by have q := (fr_X17_loadDemo hv10).1; omega) (by have q := (fr_X17_loadDemo hv10).2.1; omega) rfl ?_
      refine lv_icmp_eq (tgt := 866) hx hb dL_law_280 (by decide) (fun cc => ?_) (fun cc => ?_)
      · have hw := sv_ift cc hw
        exact lk_L_law_866 K hr1 hQ1 hQ2 hk18 hm18 hw hM hR hS (lv_sub hl [0, 1, 2, 3] rfl)
      · have hw := sv_iff cc hw
        refine lv_iconst (v := 0) hx hb dL_law_283 (by decide) ?_
        exact absurd ((sv_ret hw).1.trans hr1) (by decide)
    have hw := sv_iff c4 hw
    refine sv_em ((v1 &&& 31) = 5) (fun c5 => ?_) (fun c5 => ?_)
    · have hw := sv_ift c5 hw
      refine lv_tableIn (tgt := 285) (off := 253) hx hb dL_law_32 (by rw [c5]; decide) (by rw [c5]; decide) (by rw [c5]; rfl) (by decide) ?_
      refine lv_aload_n hx hb dL_law_285 rfl (lv_at hl 1 rfl) ?_
      obtain ⟨r34, h35, hv11, hw⟩ := sv_b_some hw
      have hc2 := fr_X12_saveMap hv11
      have hm : sv_le h35 hE := by
        refine (?_ : sv_fr sv_le h35 _) _ _ hw
        have hs := sv_le.refl h35
        refine fr_cl (fun _ _ e => hs.trans (fr_X17_saveMap e).le) (fun _ h hs => ?_)
        refine fr_if ?_ ?_
        · exact fr_L_law_866 hm18 hs
        · exact fr_rt hs
      refine sv_call (va_runV (As := []) (rest := []) ⟨hx, hb, hml, hown, hts⟩ (mt_X12_saveMap l G B hv11) (cwV 0 hts (sv_gV wd_1048 wd_1049 wd_1050 wd_131 wd_1051) rfl rfl rfl (by decide +kernel) ⟨Nat.le_of_ble_eq_true rfl, Nat.le_of_ble_eq_true rfl⟩) ⟨sv_blind, sv_recv hC.1 hR (ci := 12) (sv_go hv11).1 (by decide) rfl, fun U hU hW => sv_pre hC hR hS hBs hU hW⟩ rfl rfl hl.1 rfl (lv_room (Nat.le_of_ble_eq_true rfl)) dL_law_286 ⟨by have q1 := hm.1; have q2 := hM.1; have q3 := hc2.1; show sv_sz h - sv_sz h0 + (sv_sz h35 - sv_sz h) ≤ 600000; omega, by have q1 := hm.2.1; have q2 := hM.2.1; have q3 := hc2.2.1; show sv_sl h - sv_sl h0 + (sv_sl h35 - sv_sl h) ≤ 7302250; omega⟩) hS (fun H locs hR hS => ?_)
      refine sv_csE (cells' := sv_sz h35 - sv_sz h0) (slots' := sv_sl h35 - sv_sl h0) (by have q2 := hM.1; have q3 := hc2.1; omega) (by have q2 := hM.2.1; have q3 := hc2.2.1; omega) rfl ?_
      have hM := hM.trans hc2
      refine lv_aload_n hx hb dL_law_289 rfl (lv_at hl 2 rfl) ?_
      obtain ⟨r36, h37, hv12, hw⟩ := sv_b_some hw
      refine sv_call (va_runV (As := []) (rest := [.int r34]) ⟨hx, hb, hml, hown, hts⟩ (mt_X17_saveMap l G B hv12) (cwV 0 hts (sv_gV wd_1979 wd_1980 wd_1981 wd_144 wd_1982) rfl rfl rfl (by decide +kernel) ⟨Nat.le_of_ble_eq_true rfl, Nat.le_of_ble_eq_true rfl⟩) ⟨sv_blind, sv_recv hC.1 hR (ci := 17) (sv_go hv12).1 (by decide) rfl, fun U hU hW => sv_pre hC hR hS hBs hU hW⟩ rfl rfl hl.1 rfl (lv_room (Nat.le_of_ble_eq_true rfl)) dL_law_290 ⟨by have q1 := hm.1; have q2 := hM.1; show sv_sz h35 - sv_sz h0 + 0 ≤ 600000; omega, by have q1 := hm.2.1; have q2 := hM.2.1; show sv_sl h35 - sv_sl h0 + 0 ≤ 7302250; omega⟩) hS (fun H locs hR hS => ?_)
      have hM := hM.trans (fr_X17_saveMap hv12).le
      have hm := (fr_X17_saveMap hv12).mono hm
      refine sv_csE (cells' := sv_sz h37 - sv_sz h0) (slots' := sv_sl h37 - sv_sl h0) (by have q := (fr_X17_saveMap hv12).1; omega) (by have q := (fr_X17_saveMap hv12).2.1; omega) rfl ?_
      refine lv_icmp_eq (tgt := 866) hx hb dL_law_293 (by decide) (fun cc => ?_) (fun cc => ?_)
      · have hw := sv_ift cc hw
        exact lk_L_law_866 K hr1 hQ1 hQ2 hk18 hm18 hw hM hR hS (lv_sub hl [0, 1, 2, 3] rfl)
      · have hw := sv_iff cc hw
        refine lv_iconst (v := 0) hx hb dL_law_296 (by decide) ?_
        exact absurd ((sv_ret hw).1.trans hr1) (by decide)
    have hw := sv_iff c5 hw
    refine sv_em ((v1 &&& 31) = 6) (fun c6 => ?_) (fun c6 => ?_)
    · have hw := sv_ift c6 hw
      refine lv_tableIn (tgt := 298) (off := 266) hx hb dL_law_32 (by rw [c6]; decide) (by rw [c6]; decide) (by rw [c6]; rfl) (by decide) ?_
      refine lv_aload_n hx hb dL_law_298 rfl (lv_at hl 1 rfl) ?_
      obtain ⟨r38, h39, hv13, hw⟩ := sv_b_some hw
      have hc2 := fr_X12_saveDemo hv13
      have hm : sv_le h39 hE := by
        refine (?_ : sv_fr sv_le h39 _) _ _ hw
        have hs := sv_le.refl h39
        refine fr_cl (fun _ _ e => hs.trans (fr_X17_saveDemo e).le) (fun _ h hs => ?_)
        refine fr_if ?_ ?_
        · exact fr_L_law_866 hm18 hs
        · exact fr_rt hs
      refine sv_call (va_runV (As := []) (rest := []) ⟨hx, hb, hml, hown, hts⟩ (mt_X12_saveDemo l G B hv13) (cwV 0 hts (sv_gV wd_1052 wd_1053 wd_1054 wd_131 wd_1055) rfl rfl rfl (by decide +kernel) ⟨Nat.le_of_ble_eq_true rfl, Nat.le_of_ble_eq_true rfl⟩) ⟨sv_blind, sv_recv hC.1 hR (ci := 12) (sv_go hv13).1 (by decide) rfl, fun U hU hW => sv_pre hC hR hS hBs hU hW⟩ rfl rfl hl.1 rfl (lv_room (Nat.le_of_ble_eq_true rfl)) dL_law_299 ⟨by have q1 := hm.1; have q2 := hM.1; have q3 := hc2.1; show sv_sz h - sv_sz h0 + (sv_sz h39 - sv_sz h) ≤ 600000; omega, by have q1 := hm.2.1; have q2 := hM.2.1; have q3 := hc2.2.1; show sv_sl h - sv_sl h0 + (sv_sl h39 - sv_sl h) ≤ 7302250; omega⟩) hS (fun H locs hR hS => ?_)
      refine sv_csE (cells' := sv_sz h39 - sv_sz h0) (slots' := sv_sl h39 - sv_sl h0) (by have q2 := hM.1; have q3 := hc2.1; omega) (by have q2 := hM.2.1; have q3 := hc2.2.1; omega) rfl ?_
      have hM := hM.trans hc2
      refine lv_aload_n hx hb dL_law_302 rfl (lv_at hl 2 rfl) ?_
      obtain ⟨r40, h41, hv14, hw⟩ := sv_b_some hw
      refine sv_call (va_runV (As := []) (rest := [.int r38]) ⟨hx, hb, hml, hown, hts⟩ (mt_X17_saveDemo l G B hv14) (cwV 0 hts (sv_gV wd_1983 wd_1984 wd_1985 wd_144 wd_1986) rfl rfl rfl (by decide +kernel) ⟨Nat.le_of_ble_eq_true rfl, Nat.le_of_ble_eq_true rfl⟩) ⟨sv_blind, sv_recv hC.1 hR (ci := 17) (sv_go hv14).1 (by decide) rfl, fun U hU hW => sv_pre hC hR hS hBs hU hW⟩ rfl rfl hl.1 rfl (lv_room (Nat.le_of_ble_eq_true rfl)) dL_law_303 ⟨by have q1 := hm.1; have q2 := hM.1; show sv_sz h39 - sv_sz h0 + 0 ≤ 600000; omega, by have q1 := hm.2.1; have q2 := hM.2.1; show sv_sl h39 - sv_sl h0 + 0 ≤ 7302250; omega⟩) hS (fun H locs hR hS => ?_)
      have hM := hM.trans (fr_X17_saveDemo hv14).le
      have hm := (fr_X17_saveDemo hv14).mono hm
      refine sv_csE (cells' := sv_sz h41 - sv_sz h0) (slots' := sv_sl h41 - sv_sl h0) (by have q := (fr_X17_saveDemo hv14).1; omega) (by have q := (fr_X17_saveDemo hv14).2.1; omega) rfl ?_
      refine lv_icmp_eq (tgt := 866) hx hb dL_law_306 (by decide) (fun cc => ?_) (fun cc => ?_)
      · have hw := sv_ift cc hw
        exact lk_L_law_866 K hr1 hQ1 hQ2 hk18 hm18 hw hM hR hS (lv_sub hl [0, 1, 2, 3] rfl)
      · have hw := sv_iff cc hw
        refine lv_iconst (v := 0) hx hb dL_law_309 (by decide) ?_
        exact absurd ((sv_ret hw).1.trans hr1) (by decide)
    have hw := sv_iff c6 hw
    refine sv_em ((v1 &&& 31) = 7) (fun c7 => ?_) (fun c7 => ?_)
    · have hw := sv_ift c7 hw
      refine lv_tableIn (tgt := 311) (off := 279) hx hb dL_law_32 (by rw [c7]; decide) (by rw [c7]; decide) (by rw [c7]; rfl) (by decide) ?_
      refine lv_aload_n hx hb dL_law_311 rfl (lv_at hl 1 rfl) ?_
      obtain ⟨_, h42, hv15, hw⟩ := sv_b_some hw
      have hc2 := fr_X12_turnBytes hv15
      have hm : sv_le h42 hE := by
        refine (?_ : sv_fr sv_le h42 _) _ _ hw
        have hs := sv_le.refl h42
        refine fr_cl (fun _ _ e => hs.trans (fr_X17_turnBytes e).le) (fun _ h hs => ?_)
        exact fr_L_law_866 hm18 hs
      refine sv_call (va_runV (As := []) (rest := []) ⟨hx, hb, hml, hown, hts⟩ (mt_X12_turnBytes l G B hv15) (cwV 0 hts (sv_gV wd_1081 wd_1082 wd_1083 wd_131 wd_1084) rfl rfl rfl (by decide +kernel) ⟨Nat.le_of_ble_eq_true rfl, Nat.le_of_ble_eq_true rfl⟩) ⟨sv_blind, sv_recv hC.1 hR (ci := 12) (sv_go hv15).1 (by decide) rfl, fun U hU hW => sv_pre hC hR hS hBs hU hW⟩ rfl rfl hl.1 rfl (lv_room (Nat.le_of_ble_eq_true rfl)) dL_law_312 ⟨by have q1 := hm.1; have q2 := hM.1; have q3 := hc2.1; show sv_sz h - sv_sz h0 + (sv_sz h42 - sv_sz h) ≤ 600000; omega, by have q1 := hm.2.1; have q2 := hM.2.1; have q3 := hc2.2.1; show sv_sl h - sv_sl h0 + (sv_sl h42 - sv_sl h) ≤ 7302250; omega⟩) hS (fun H locs hR hS => ?_)
      refine sv_csE (cells' := sv_sz h42 - sv_sz h0) (slots' := sv_sl h42 - sv_sl h0) (by have q2 := hM.1; have q3 := hc2.1; omega) (by have q2 := hM.2.1; have q3 := hc2.2.1; omega) rfl ?_
      have hM := hM.trans hc2
      refine lv_aload_n hx hb dL_law_315 rfl (lv_at hl 2 rfl) ?_
      obtain ⟨_, h43, hv16, hw⟩ := sv_b_some hw
      refine sv_call (va_runV (As := []) (rest := []) ⟨hx, hb, hml, hown, hts⟩ (mt_X17_turnBytes l G B hv16) (cwV 0 hts (sv_gV wd_2003 wd_2004 wd_2005 wd_144 wd_2006) rfl rfl rfl (by decide +kernel) ⟨Nat.le_of_ble_eq_true rfl, Nat.le_of_ble_eq_true rfl⟩) ⟨sv_blind, sv_recv hC.1 hR (ci := 17) (sv_go hv16).1 (by decide) rfl, fun U hU hW => sv_pre hC hR hS hBs hU hW⟩ rfl rfl hl.1 rfl (lv_room (Nat.le_of_ble_eq_true rfl)) dL_law_316 ⟨by have q1 := hm.1; have q2 := hM.1; show sv_sz h42 - sv_sz h0 + 0 ≤ 600000; omega, by have q1 := hm.2.1; have q2 := hM.2.1; show sv_sl h42 - sv_sl h0 + 0 ≤ 7302250; omega⟩) hS (fun H locs hR hS => ?_)
      have hM := hM.trans (fr_X17_turnBytes hv16).le
      have hm := (fr_X17_turnBytes hv16).mono hm
      refine sv_csE (cells' := sv_sz h43 - sv_sz h0) (slots' := sv_sl h43 - sv_sl h0) (by have q := (fr_X17_turnBytes hv16).1; omega) (by have q := (fr_X17_turnBytes hv16).2.1; omega) rfl ?_
      refine lv_goto (tgt := 866) hx hb dL_law_319 (by decide) ?_
      exact lk_L_law_866 K hr1 hQ1 hQ2 hk18 hm18 hw hM hR hS (lv_sub hl [0, 1, 2, 3] rfl)
    have hw := sv_iff c7 hw
    refine sv_em ((v1 &&& 31) = 8) (fun c8 => ?_) (fun c8 => ?_)
    · have hw := sv_ift c8 hw
      refine lv_tableIn (tgt := 322) (off := 290) hx hb dL_law_32 (by rw [c8]; decide) (by rw [c8]; decide) (by rw [c8]; rfl) (by decide) ?_
      refine lv_aload_n hx hb dL_law_322 rfl (lv_at hl 1 rfl) ?_
      refine lv_aload_n hx hb dL_law_323 rfl (lv_at hl 0 rfl) ?_
      refine lv_iload_n hx hb dL_law_324 rfl (lv_at hl 3 rfl) ?_
      refine lv_iconst (v := 1) hx hb dL_law_325 (by decide) ?_
      refine lv_iadd hx hb dL_law_326 ?_
      obtain ⟨v44, hv, hw⟩ := sv_bd hw
      obtain ⟨hin, hv⟩ := sv_if hv
      refine va_sld hx hb hX hbl hbA hS hin dL_law_327 ?_
      rw [hv]
      refine lv_aload_n hx hb dL_law_328 rfl (lv_at hl 0 rfl) ?_
      refine lv_iload_n hx hb dL_law_329 rfl (lv_at hl 3 rfl) ?_
      refine lv_iconst (v := 2) hx hb dL_law_330 (by decide) ?_
      refine lv_iadd hx hb dL_law_331 ?_
      obtain ⟨v45, hv, hw⟩ := sv_bd hw
      obtain ⟨hin, hv⟩ := sv_if hv
      refine va_sld hx hb hX hbl hbA hS hin dL_law_332 ?_
      rw [hv]
      refine lv_aload_n hx hb dL_law_333 rfl (lv_at hl 0 rfl) ?_
      refine lv_iload_n hx hb dL_law_334 rfl (lv_at hl 3 rfl) ?_
      refine lv_iconst (v := 3) hx hb dL_law_335 (by decide) ?_
      refine lv_iadd hx hb dL_law_336 ?_
      obtain ⟨v46, hv, hw⟩ := sv_bd hw
      obtain ⟨hin, hv⟩ := sv_if hv
      refine va_sld hx hb hX hbl hbA hS hin dL_law_337 ?_
      rw [hv]
      refine lv_aload_n hx hb dL_law_338 rfl (lv_at hl 0 rfl) ?_
      refine lv_iload_n hx hb dL_law_339 rfl (lv_at hl 3 rfl) ?_
      refine lv_iconst (v := 4) hx hb dL_law_340 (by decide) ?_
      refine lv_iadd hx hb dL_law_341 ?_
      obtain ⟨v47, hv, hw⟩ := sv_bd hw
      obtain ⟨hin, hv⟩ := sv_if hv
      refine va_sld hx hb hX hbl hbA hS hin dL_law_342 ?_
      rw [hv]
      obtain ⟨r48, h49, hv17, hw⟩ := sv_b_some hw
      refine sv_call (va_runV (As := [.int v44, .int v45, .int v46, .int v47]) (rest := []) ⟨hx, hb, hml, hown, hts⟩ (mt_X12_startAt l G B hv17) (cwV 4 hts (sv_gV wd_1085 wd_1086 wd_1087 wd_131 wd_1088) rfl rfl rfl (by decide +kernel) ⟨Nat.le_of_ble_eq_true rfl, Nat.le_of_ble_eq_true rfl⟩) ⟨sv_blind, sv_recv hC.1 hR (ci := 12) (sv_go hv17).1 (by decide) rfl, fun U hU hW => sv_pre hC hR hS hBs hU hW⟩ rfl rfl hl.1 rfl (lv_room (Nat.le_of_ble_eq_true rfl)) dL_law_343 ⟨by have q1 := hm.1; have q2 := hM.1; show sv_sz h - sv_sz h0 + 0 ≤ 600000; omega, by have q1 := hm.2.1; have q2 := hM.2.1; show sv_sl h - sv_sl h0 + 0 ≤ 7302250; omega⟩) hS (fun H locs hR hS => ?_)
      have hM := hM.trans (fr_X12_startAt hv17).le
      have hm := (fr_X12_startAt hv17).mono hm
      refine sv_csE (cells' := sv_sz h49 - sv_sz h0) (slots' := sv_sl h49 - sv_sl h0) (by have q := (fr_X12_startAt hv17).1; omega) (by have q := (fr_X12_startAt hv17).2.1; omega) rfl ?_
      refine lv_aload_n hx hb dL_law_346 rfl (lv_at hl 2 rfl) ?_
      refine lv_aload_n hx hb dL_law_347 rfl (lv_at hl 0 rfl) ?_
      refine lv_iload_n hx hb dL_law_348 rfl (lv_at hl 3 rfl) ?_
      refine lv_iconst (v := 1) hx hb dL_law_349 (by decide) ?_
      refine lv_iadd hx hb dL_law_350 ?_
      obtain ⟨v50, hv, hw⟩ := sv_bd hw
      obtain ⟨hin, hv⟩ := sv_if hv
      refine va_sld hx hb hX hbl hbA hS hin dL_law_351 ?_
      rw [hv]
      refine lv_aload_n hx hb dL_law_352 rfl (lv_at hl 0 rfl) ?_
      refine lv_iload_n hx hb dL_law_353 rfl (lv_at hl 3 rfl) ?_
      refine lv_iconst (v := 2) hx hb dL_law_354 (by decide) ?_
      refine lv_iadd hx hb dL_law_355 ?_
      obtain ⟨v51, hv, hw⟩ := sv_bd hw
      obtain ⟨hin, hv⟩ := sv_if hv
      refine va_sld hx hb hX hbl hbA hS hin dL_law_356 ?_
      rw [hv]
      refine lv_aload_n hx hb dL_law_357 rfl (lv_at hl 0 rfl) ?_
      refine lv_iload_n hx hb dL_law_358 rfl (lv_at hl 3 rfl) ?_
      refine lv_iconst (v := 3) hx hb dL_law_359 (by decide) ?_
      refine lv_iadd hx hb dL_law_360 ?_
      obtain ⟨v52, hv, hw⟩ := sv_bd hw
      obtain ⟨hin, hv⟩ := sv_if hv
      refine va_sld hx hb hX hbl hbA hS hin dL_law_361 ?_
      rw [hv]
      refine lv_aload_n hx hb dL_law_362 rfl (lv_at hl 0 rfl) ?_
      refine lv_iload_n hx hb dL_law_363 rfl (lv_at hl 3 rfl) ?_
      refine lv_iconst (v := 4) hx hb dL_law_364 (by decide) ?_
      refine lv_iadd hx hb dL_law_365 ?_
      obtain ⟨v53, hv, hw⟩ := sv_bd hw
      obtain ⟨hin, hv⟩ := sv_if hv
      refine va_sld hx hb hX hbl hbA hS hin dL_law_366 ?_
      rw [hv]
      obtain ⟨r54, h55, hv18, hw⟩ := sv_b_some hw
      refine sv_call (va_runV (As := [.int v50, .int v51, .int v52, .int v53]) (rest := [.int r48]) ⟨hx, hb, hml, hown, hts⟩ (mt_X17_startAt l G B hv18) (cwV 4 hts (sv_gV wd_2137 wd_2138 wd_2139 wd_144 wd_2140) rfl rfl rfl (by decide +kernel) ⟨Nat.le_of_ble_eq_true rfl, Nat.le_of_ble_eq_true rfl⟩) ⟨sv_blind, sv_recv hC.1 hR (ci := 17) (sv_go hv18).1 (by decide) rfl, fun U hU hW => sv_pre hC hR hS hBs hU hW⟩ rfl rfl hl.1 rfl (lv_room (Nat.le_of_ble_eq_true rfl)) dL_law_367 ⟨by have q1 := hm.1; have q2 := hM.1; show sv_sz h49 - sv_sz h0 + 0 ≤ 600000; omega, by have q1 := hm.2.1; have q2 := hM.2.1; show sv_sl h49 - sv_sl h0 + 0 ≤ 7302250; omega⟩) hS (fun H locs hR hS => ?_)
      have hM := hM.trans (fr_X17_startAt hv18).le
      have hm := (fr_X17_startAt hv18).mono hm
      refine sv_csE (cells' := sv_sz h55 - sv_sz h0) (slots' := sv_sl h55 - sv_sl h0) (by have q := (fr_X17_startAt hv18).1; omega) (by have q := (fr_X17_startAt hv18).2.1; omega) rfl ?_
      refine lv_icmp_eq (tgt := 866) hx hb dL_law_370 (by decide) (fun cc => ?_) (fun cc => ?_)
      · have hw := sv_ift cc hw
        exact lk_L_law_866 K hr1 hQ1 hQ2 hk18 hm18 hw hM hR hS (lv_sub hl [0, 1, 2, 3] rfl)
      · have hw := sv_iff cc hw
        refine lv_iconst (v := 0) hx hb dL_law_373 (by decide) ?_
        exact absurd ((sv_ret hw).1.trans hr1) (by decide)
    have hw := sv_iff c8 hw
    refine sv_em ((v1 &&& 31) = 9) (fun c9 => ?_) (fun c9 => ?_)
    · have hw := sv_ift c9 hw
      refine lv_tableIn (tgt := 375) (off := 343) hx hb dL_law_32 (by rw [c9]; decide) (by rw [c9]; decide) (by rw [c9]; rfl) (by decide) ?_
      refine lv_aload_n hx hb dL_law_375 rfl (lv_at hl 1 rfl) ?_
      refine lv_aload_n hx hb dL_law_376 rfl (lv_at hl 0 rfl) ?_
      refine lv_iload_n hx hb dL_law_377 rfl (lv_at hl 3 rfl) ?_
      refine lv_iconst (v := 1) hx hb dL_law_378 (by decide) ?_
      refine lv_iadd hx hb dL_law_379 ?_
      obtain ⟨v56, hv, hw⟩ := sv_bd hw
      obtain ⟨hin, hv⟩ := sv_if hv
      refine va_sld hx hb hX hbl hbA hS hin dL_law_380 ?_
      rw [hv]
      refine lv_aload_n hx hb dL_law_381 rfl (lv_at hl 0 rfl) ?_
      refine lv_iload_n hx hb dL_law_382 rfl (lv_at hl 3 rfl) ?_
      refine lv_iconst (v := 2) hx hb dL_law_383 (by decide) ?_
      refine lv_iadd hx hb dL_law_384 ?_
      obtain ⟨v57, hv, hw⟩ := sv_bd hw
      obtain ⟨hin, hv⟩ := sv_if hv
      refine va_sld hx hb hX hbl hbA hS hin dL_law_385 ?_
      rw [hv]
      refine lv_aload_n hx hb dL_law_386 rfl (lv_at hl 0 rfl) ?_
      refine lv_iload_n hx hb dL_law_387 rfl (lv_at hl 3 rfl) ?_
      refine lv_iconst (v := 3) hx hb dL_law_388 (by decide) ?_
      refine lv_iadd hx hb dL_law_389 ?_
      obtain ⟨v58, hv, hw⟩ := sv_bd hw
      obtain ⟨hin, hv⟩ := sv_if hv
      refine va_sld hx hb hX hbl hbA hS hin dL_law_390 ?_
      rw [hv]
      refine lv_aload_n hx hb dL_law_391 rfl (lv_at hl 0 rfl) ?_
      refine lv_iload_n hx hb dL_law_392 rfl (lv_at hl 3 rfl) ?_
      refine lv_iconst (v := 4) hx hb dL_law_393 (by decide) ?_
      refine lv_iadd hx hb dL_law_394 ?_
      obtain ⟨v59, hv, hw⟩ := sv_bd hw
      obtain ⟨hin, hv⟩ := sv_if hv
      refine va_sld hx hb hX hbl hbA hS hin dL_law_395 ?_
      rw [hv]
      refine lv_if_eq (tgt := 403) hx hb dL_law_396 (by decide) (fun cc => ?_) (fun cc => ?_)
      · have hw := sv_ift cc hw
        refine lv_iconst (v := 0) hx hb dL_law_403 (by decide) ?_
        exact lk_L_law_404 K hr1 hQ1 hQ2 hk18 hm18 hw hM hR hS (lv_sub hl [0, 1, 2, 3] rfl)
      · have hw := sv_iff cc hw
        refine lv_iconst (v := 1) hx hb dL_law_399 (by decide) ?_
        refine lv_goto (tgt := 404) hx hb dL_law_400 (by decide) ?_
        exact lk_L_law_404 K hr1 hQ1 hQ2 hk18 hm18 hw hM hR hS (lv_sub hl [0, 1, 2, 3] rfl)
    have hw := sv_iff c9 hw
    refine sv_em ((v1 &&& 31) = 10) (fun c10 => ?_) (fun c10 => ?_)
    · have hw := sv_ift c10 hw
      refine lv_tableIn (tgt := 444) (off := 412) hx hb dL_law_32 (by rw [c10]; decide) (by rw [c10]; decide) (by rw [c10]; rfl) (by decide) ?_
      refine lv_aload_n hx hb dL_law_444 rfl (lv_at hl 1 rfl) ?_
      refine lv_aload_n hx hb dL_law_445 rfl (lv_at hl 0 rfl) ?_
      refine lv_iload_n hx hb dL_law_446 rfl (lv_at hl 3 rfl) ?_
      refine lv_iconst (v := 1) hx hb dL_law_447 (by decide) ?_
      refine lv_iadd hx hb dL_law_448 ?_
      obtain ⟨v60, hv, hw⟩ := sv_bd hw
      obtain ⟨hin, hv⟩ := sv_if hv
      refine va_sld hx hb hX hbl hbA hS hin dL_law_449 ?_
      rw [hv]
      obtain ⟨r61, h62, hv19, hw⟩ := sv_b_some hw
      refine sv_call (va_runV (As := [.int v60]) (rest := []) ⟨hx, hb, hml, hown, hts⟩ (mt_X12_dropInputs l G B hv19) (cwV 1 hts (sv_gV wd_1106 wd_1107 wd_1108 wd_131 wd_1109) rfl rfl rfl (by decide +kernel) ⟨Nat.le_of_ble_eq_true rfl, Nat.le_of_ble_eq_true rfl⟩) ⟨sv_blind, sv_recv hC.1 hR (ci := 12) (sv_go hv19).1 (by decide) rfl, fun U hU hW => sv_pre hC hR hS hBs hU hW⟩ rfl rfl hl.1 rfl (lv_room (Nat.le_of_ble_eq_true rfl)) dL_law_450 ⟨by have q1 := hm.1; have q2 := hM.1; show sv_sz h - sv_sz h0 + 0 ≤ 600000; omega, by have q1 := hm.2.1; have q2 := hM.2.1; show sv_sl h - sv_sl h0 + 0 ≤ 7302250; omega⟩) hS (fun H locs hR hS => ?_)
      have hM := hM.trans (fr_X12_dropInputs hv19).le
      have hm := (fr_X12_dropInputs hv19).mono hm
      refine sv_csE (cells' := sv_sz h62 - sv_sz h0) (slots' := sv_sl h62 - sv_sl h0) (by have q := (fr_X12_dropInputs hv19).1; omega) (by have q := (fr_X12_dropInputs hv19).2.1; omega) rfl ?_
      refine lv_aload_n hx hb dL_law_453 rfl (lv_at hl 2 rfl) ?_
      refine lv_aload_n hx hb dL_law_454 rfl (lv_at hl 0 rfl) ?_
      refine lv_iload_n hx hb dL_law_455 rfl (lv_at hl 3 rfl) ?_
      refine lv_iconst (v := 1) hx hb dL_law_456 (by decide) ?_
      refine lv_iadd hx hb dL_law_457 ?_
      obtain ⟨v63, hv, hw⟩ := sv_bd hw
      obtain ⟨hin, hv⟩ := sv_if hv
      refine va_sld hx hb hX hbl hbA hS hin dL_law_458 ?_
      rw [hv]
      obtain ⟨r64, h65, hv20, hw⟩ := sv_b_some hw
      refine sv_call (va_runV (As := [.int v63]) (rest := [.int r61]) ⟨hx, hb, hml, hown, hts⟩ (mt_X17_dropInputs l G B hv20) (cwV 1 hts (sv_gV wd_2156 wd_2157 wd_2158 wd_144 wd_2159) rfl rfl rfl (by decide +kernel) ⟨Nat.le_of_ble_eq_true rfl, Nat.le_of_ble_eq_true rfl⟩) ⟨sv_blind, sv_recv hC.1 hR (ci := 17) (sv_go hv20).1 (by decide) rfl, fun U hU hW => sv_pre hC hR hS hBs hU hW⟩ rfl rfl hl.1 rfl (lv_room (Nat.le_of_ble_eq_true rfl)) dL_law_459 ⟨by have q1 := hm.1; have q2 := hM.1; show sv_sz h62 - sv_sz h0 + 0 ≤ 600000; omega, by have q1 := hm.2.1; have q2 := hM.2.1; show sv_sl h62 - sv_sl h0 + 0 ≤ 7302250; omega⟩) hS (fun H locs hR hS => ?_)
      have hM := hM.trans (fr_X17_dropInputs hv20).le
      have hm := (fr_X17_dropInputs hv20).mono hm
      refine sv_csE (cells' := sv_sz h65 - sv_sz h0) (slots' := sv_sl h65 - sv_sl h0) (by have q := (fr_X17_dropInputs hv20).1; omega) (by have q := (fr_X17_dropInputs hv20).2.1; omega) rfl ?_
      refine lv_icmp_eq (tgt := 866) hx hb dL_law_462 (by decide) (fun cc => ?_) (fun cc => ?_)
      · have hw := sv_ift cc hw
        exact lk_L_law_866 K hr1 hQ1 hQ2 hk18 hm18 hw hM hR hS (lv_sub hl [0, 1, 2, 3] rfl)
      · have hw := sv_iff cc hw
        refine lv_iconst (v := 0) hx hb dL_law_465 (by decide) ?_
        exact absurd ((sv_ret hw).1.trans hr1) (by decide)
    have hw := sv_iff c10 hw
    refine sv_em ((v1 &&& 31) = 11) (fun c11 => ?_) (fun c11 => ?_)
    · have hw := sv_ift c11 hw
      refine lv_tableIn (tgt := 467) (off := 435) hx hb dL_law_32 (by rw [c11]; decide) (by rw [c11]; decide) (by rw [c11]; rfl) (by decide) ?_
      refine lv_aload_n hx hb dL_law_467 rfl (lv_at hl 1 rfl) ?_
      refine lv_aload_n hx hb dL_law_468 rfl (lv_at hl 0 rfl) ?_
      refine lv_iload_n hx hb dL_law_469 rfl (lv_at hl 3 rfl) ?_
      refine lv_iconst (v := 1) hx hb dL_law_470 (by decide) ?_
      refine lv_iadd hx hb dL_law_471 ?_
      obtain ⟨v66, hv, hw⟩ := sv_bd hw
      obtain ⟨hin, hv⟩ := sv_if hv
      refine va_sld hx hb hX hbl hbA hS hin dL_law_472 ?_
      rw [hv]
      obtain ⟨r67, h68, hv21, hw⟩ := sv_b_some hw
      refine sv_call (va_runV (As := [.int v66]) (rest := []) ⟨hx, hb, hml, hown, hts⟩ (mt_X12_playTo l G B hv21) (cwV 1 hts (sv_gV wd_1110 wd_1111 wd_1112 wd_131 wd_1113) rfl rfl rfl (by decide +kernel) ⟨Nat.le_of_ble_eq_true rfl, Nat.le_of_ble_eq_true rfl⟩) ⟨sv_blind, sv_recv hC.1 hR (ci := 12) (sv_go hv21).1 (by decide) rfl, fun U hU hW => sv_pre hC hR hS hBs hU hW⟩ rfl rfl hl.1 rfl (lv_room (Nat.le_of_ble_eq_true rfl)) dL_law_473 ⟨by have q1 := hm.1; have q2 := hM.1; show sv_sz h - sv_sz h0 + 0 ≤ 600000; omega, by have q1 := hm.2.1; have q2 := hM.2.1; show sv_sl h - sv_sl h0 + 0 ≤ 7302250; omega⟩) hS (fun H locs hR hS => ?_)
      have hM := hM.trans (fr_X12_playTo hv21).le
      have hm := (fr_X12_playTo hv21).mono hm
      refine sv_csE (cells' := sv_sz h68 - sv_sz h0) (slots' := sv_sl h68 - sv_sl h0) (by have q := (fr_X12_playTo hv21).1; omega) (by have q := (fr_X12_playTo hv21).2.1; omega) rfl ?_
      refine lv_aload_n hx hb dL_law_476 rfl (lv_at hl 2 rfl) ?_
      refine lv_aload_n hx hb dL_law_477 rfl (lv_at hl 0 rfl) ?_
      refine lv_iload_n hx hb dL_law_478 rfl (lv_at hl 3 rfl) ?_
      refine lv_iconst (v := 1) hx hb dL_law_479 (by decide) ?_
      refine lv_iadd hx hb dL_law_480 ?_
      obtain ⟨v69, hv, hw⟩ := sv_bd hw
      obtain ⟨hin, hv⟩ := sv_if hv
      refine va_sld hx hb hX hbl hbA hS hin dL_law_481 ?_
      rw [hv]
      obtain ⟨r70, h71, hv22, hw⟩ := sv_b_some hw
      refine sv_call (va_runV (As := [.int v69]) (rest := [.int r67]) ⟨hx, hb, hml, hown, hts⟩ (mt_X17_playTo l G B hv22) (cwV 1 hts (sv_gV wd_2164 wd_2165 wd_2166 wd_144 wd_2167) rfl rfl rfl (by decide +kernel) ⟨Nat.le_of_ble_eq_true rfl, Nat.le_of_ble_eq_true rfl⟩) ⟨sv_blind, sv_recv hC.1 hR (ci := 17) (sv_go hv22).1 (by decide) rfl, fun U hU hW => sv_pre hC hR hS hBs hU hW⟩ rfl rfl hl.1 rfl (lv_room (Nat.le_of_ble_eq_true rfl)) dL_law_482 ⟨by have q1 := hm.1; have q2 := hM.1; show sv_sz h68 - sv_sz h0 + 0 ≤ 600000; omega, by have q1 := hm.2.1; have q2 := hM.2.1; show sv_sl h68 - sv_sl h0 + 0 ≤ 7302250; omega⟩) hS (fun H locs hR hS => ?_)
      have hM := hM.trans (fr_X17_playTo hv22).le
      have hm := (fr_X17_playTo hv22).mono hm
      refine sv_csE (cells' := sv_sz h71 - sv_sz h0) (slots' := sv_sl h71 - sv_sl h0) (by have q := (fr_X17_playTo hv22).1; omega) (by have q := (fr_X17_playTo hv22).2.1; omega) rfl ?_
      refine lv_icmp_eq (tgt := 866) hx hb dL_law_485 (by decide) (fun cc => ?_) (fun cc => ?_)
      · have hw := sv_ift cc hw
        exact lk_L_law_866 K hr1 hQ1 hQ2 hk18 hm18 hw hM hR hS (lv_sub hl [0, 1, 2, 3] rfl)
      · have hw := sv_iff cc hw
        refine lv_iconst (v := 0) hx hb dL_law_488 (by decide) ?_
        exact absurd ((sv_ret hw).1.trans hr1) (by decide)
    have hw := sv_iff c11 hw
    refine sv_em ((v1 &&& 31) = 12) (fun c12 => ?_) (fun c12 => ?_)
    · have hw := sv_ift c12 hw
      refine lv_tableIn (tgt := 490) (off := 458) hx hb dL_law_32 (by rw [c12]; decide) (by rw [c12]; decide) (by rw [c12]; rfl) (by decide) ?_
      refine lv_aload_n hx hb dL_law_490 rfl (lv_at hl 1 rfl) ?_
      refine lv_aload_n hx hb dL_law_491 rfl (lv_at hl 0 rfl) ?_
      refine lv_iload_n hx hb dL_law_492 rfl (lv_at hl 3 rfl) ?_
      refine lv_iconst (v := 1) hx hb dL_law_493 (by decide) ?_
      refine lv_iadd hx hb dL_law_494 ?_
      obtain ⟨v72, hv, hw⟩ := sv_bd hw
      obtain ⟨hin, hv⟩ := sv_if hv
      refine va_sld hx hb hX hbl hbA hS hin dL_law_495 ?_
      rw [hv]
      refine lv_aload_n hx hb dL_law_496 rfl (lv_at hl 0 rfl) ?_
      refine lv_iload_n hx hb dL_law_497 rfl (lv_at hl 3 rfl) ?_
      refine lv_iconst (v := 2) hx hb dL_law_498 (by decide) ?_
      refine lv_iadd hx hb dL_law_499 ?_
      obtain ⟨v73, hv, hw⟩ := sv_bd hw
      obtain ⟨hin, hv⟩ := sv_if hv
      refine va_sld hx hb hX hbl hbA hS hin dL_law_500 ?_
      rw [hv]
      refine lv_aload_n hx hb dL_law_501 rfl (lv_at hl 0 rfl) ?_
      refine lv_iload_n hx hb dL_law_502 rfl (lv_at hl 3 rfl) ?_
      refine lv_iconst (v := 3) hx hb dL_law_503 (by decide) ?_
      refine lv_iadd hx hb dL_law_504 ?_
      obtain ⟨v74, hv, hw⟩ := sv_bd hw
      obtain ⟨hin, hv⟩ := sv_if hv
      refine va_sld hx hb hX hbl hbA hS hin dL_law_505 ?_
      rw [hv]
      refine lv_aload_n hx hb dL_law_506 rfl (lv_at hl 0 rfl) ?_
      refine lv_iload_n hx hb dL_law_507 rfl (lv_at hl 3 rfl) ?_
      refine lv_iconst (v := 4) hx hb dL_law_508 (by decide) ?_
      refine lv_iadd hx hb dL_law_509 ?_
      obtain ⟨v75, hv, hw⟩ := sv_bd hw
      obtain ⟨hin, hv⟩ := sv_if hv
      refine va_sld hx hb hX hbl hbA hS hin dL_law_510 ?_
      rw [hv]
      refine lv_if_eq (tgt := 518) hx hb dL_law_511 (by decide) (fun cc => ?_) (fun cc => ?_)
      · have hw := sv_ift cc hw
        refine lv_iconst (v := 0) hx hb dL_law_518 (by decide) ?_
        exact lk_L_law_519 K hr1 hQ1 hQ2 hk18 hm18 hw hM hR hS (lv_sub hl [0, 1, 2, 3] rfl)
      · have hw := sv_iff cc hw
        refine lv_iconst (v := 1) hx hb dL_law_514 (by decide) ?_
        refine lv_goto (tgt := 519) hx hb dL_law_515 (by decide) ?_
        exact lk_L_law_519 K hr1 hQ1 hQ2 hk18 hm18 hw hM hR hS (lv_sub hl [0, 1, 2, 3] rfl)
    have hw := sv_iff c12 hw
    refine sv_em ((v1 &&& 31) = 13) (fun c13 => ?_) (fun c13 => ?_)
    · have hw := sv_ift c13 hw
      refine lv_tableIn (tgt := 559) (off := 527) hx hb dL_law_32 (by rw [c13]; decide) (by rw [c13]; decide) (by rw [c13]; rfl) (by decide) ?_
      refine lv_aload_n hx hb dL_law_559 rfl (lv_at hl 1 rfl) ?_
      refine lv_aload_n hx hb dL_law_560 rfl (lv_at hl 0 rfl) ?_
      refine lv_iload_n hx hb dL_law_561 rfl (lv_at hl 3 rfl) ?_
      refine lv_iconst (v := 1) hx hb dL_law_562 (by decide) ?_
      refine lv_iadd hx hb dL_law_563 ?_
      obtain ⟨v76, hv, hw⟩ := sv_bd hw
      obtain ⟨hin, hv⟩ := sv_if hv
      refine va_sld hx hb hX hbl hbA hS hin dL_law_564 ?_
      rw [hv]
      obtain ⟨r77, h78, hv23, hw⟩ := sv_b_some hw
      refine sv_call (va_runV (As := [.int v76]) (rest := []) ⟨hx, hb, hml, hown, hts⟩ (mt_X12_walkerOf l G B hv23) (cwV 1 hts (sv_gV wd_1253 wd_1254 wd_1255 wd_131 wd_1256) rfl rfl rfl (by decide +kernel) ⟨Nat.le_of_ble_eq_true rfl, Nat.le_of_ble_eq_true rfl⟩) ⟨sv_blind, sv_recv hC.1 hR (ci := 12) (sv_go hv23).1 (by decide) rfl, fun U hU hW => sv_pre hC hR hS hBs hU hW⟩ rfl rfl hl.1 rfl (lv_room (Nat.le_of_ble_eq_true rfl)) dL_law_565 ⟨by have q1 := hm.1; have q2 := hM.1; show sv_sz h - sv_sz h0 + 0 ≤ 600000; omega, by have q1 := hm.2.1; have q2 := hM.2.1; show sv_sl h - sv_sl h0 + 0 ≤ 7302250; omega⟩) hS (fun H locs hR hS => ?_)
      have hM := hM.trans (fr_X12_walkerOf hv23).le
      have hm := (fr_X12_walkerOf hv23).mono hm
      refine sv_csE (cells' := sv_sz h78 - sv_sz h0) (slots' := sv_sl h78 - sv_sl h0) (by have q := (fr_X12_walkerOf hv23).1; omega) (by have q := (fr_X12_walkerOf hv23).2.1; omega) rfl ?_
      refine lv_aload_n hx hb dL_law_568 rfl (lv_at hl 2 rfl) ?_
      refine lv_aload_n hx hb dL_law_569 rfl (lv_at hl 0 rfl) ?_
      refine lv_iload_n hx hb dL_law_570 rfl (lv_at hl 3 rfl) ?_
      refine lv_iconst (v := 1) hx hb dL_law_571 (by decide) ?_
      refine lv_iadd hx hb dL_law_572 ?_
      obtain ⟨v79, hv, hw⟩ := sv_bd hw
      obtain ⟨hin, hv⟩ := sv_if hv
      refine va_sld hx hb hX hbl hbA hS hin dL_law_573 ?_
      rw [hv]
      obtain ⟨r80, h81, hv24, hw⟩ := sv_b_some hw
      refine sv_call (va_runV (As := [.int v79]) (rest := [.int r77]) ⟨hx, hb, hml, hown, hts⟩ (mt_X17_walkerOf l G B hv24) (cwV 1 hts (sv_gV wd_2224 wd_2225 wd_2226 wd_144 wd_2227) rfl rfl rfl (by decide +kernel) ⟨Nat.le_of_ble_eq_true rfl, Nat.le_of_ble_eq_true rfl⟩) ⟨sv_blind, sv_recv hC.1 hR (ci := 17) (sv_go hv24).1 (by decide) rfl, fun U hU hW => sv_pre hC hR hS hBs hU hW⟩ rfl rfl hl.1 rfl (lv_room (Nat.le_of_ble_eq_true rfl)) dL_law_574 ⟨by have q1 := hm.1; have q2 := hM.1; show sv_sz h78 - sv_sz h0 + 0 ≤ 600000; omega, by have q1 := hm.2.1; have q2 := hM.2.1; show sv_sl h78 - sv_sl h0 + 0 ≤ 7302250; omega⟩) hS (fun H locs hR hS => ?_)
      have hM := hM.trans (fr_X17_walkerOf hv24).le
      have hm := (fr_X17_walkerOf hv24).mono hm
      refine sv_csE (cells' := sv_sz h81 - sv_sz h0) (slots' := sv_sl h81 - sv_sl h0) (by have q := (fr_X17_walkerOf hv24).1; omega) (by have q := (fr_X17_walkerOf hv24).2.1; omega) rfl ?_
      refine lv_icmp_eq (tgt := 866) hx hb dL_law_577 (by decide) (fun cc => ?_) (fun cc => ?_)
      · have hw := sv_ift cc hw
        exact lk_L_law_866 K hr1 hQ1 hQ2 hk18 hm18 hw hM hR hS (lv_sub hl [0, 1, 2, 3] rfl)
      · have hw := sv_iff cc hw
        refine lv_iconst (v := 0) hx hb dL_law_580 (by decide) ?_
        exact absurd ((sv_ret hw).1.trans hr1) (by decide)
    have hw := sv_iff c13 hw
    refine sv_em ((v1 &&& 31) = 14) (fun c14 => ?_) (fun c14 => ?_)
    · have hw := sv_ift c14 hw
      refine lv_tableIn (tgt := 582) (off := 550) hx hb dL_law_32 (by rw [c14]; decide) (by rw [c14]; decide) (by rw [c14]; rfl) (by decide) ?_
      refine lv_aload_n hx hb dL_law_582 rfl (lv_at hl 1 rfl) ?_
      refine lv_aload_n hx hb dL_law_583 rfl (lv_at hl 0 rfl) ?_
      refine lv_iload_n hx hb dL_law_584 rfl (lv_at hl 3 rfl) ?_
      refine lv_iconst (v := 1) hx hb dL_law_585 (by decide) ?_
      refine lv_iadd hx hb dL_law_586 ?_
      obtain ⟨v82, hv, hw⟩ := sv_bd hw
      obtain ⟨hin, hv⟩ := sv_if hv
      refine va_sld hx hb hX hbl hbA hS hin dL_law_587 ?_
      rw [hv]
      refine lv_aload_n hx hb dL_law_588 rfl (lv_at hl 0 rfl) ?_
      refine lv_iload_n hx hb dL_law_589 rfl (lv_at hl 3 rfl) ?_
      refine lv_iconst (v := 2) hx hb dL_law_590 (by decide) ?_
      refine lv_iadd hx hb dL_law_591 ?_
      obtain ⟨v83, hv, hw⟩ := sv_bd hw
      obtain ⟨hin, hv⟩ := sv_if hv
      refine va_sld hx hb hX hbl hbA hS hin dL_law_592 ?_
      rw [hv]
      obtain ⟨r84, h85, hv25, hw⟩ := sv_b_some hw
      refine sv_call (va_runV (As := [.int v82, .int v83]) (rest := []) ⟨hx, hb, hml, hown, hts⟩ (mt_X12_sectorOf l G B hv25) (cwV 2 hts (sv_gV wd_1262 wd_1263 wd_1264 wd_131 wd_1265) rfl rfl rfl (by decide +kernel) ⟨Nat.le_of_ble_eq_true rfl, Nat.le_of_ble_eq_true rfl⟩) ⟨sv_blind, sv_recv hC.1 hR (ci := 12) (sv_go hv25).1 (by decide) rfl, fun U hU hW => sv_pre hC hR hS hBs hU hW⟩ rfl rfl hl.1 rfl (lv_room (Nat.le_of_ble_eq_true rfl)) dL_law_593 ⟨by have q1 := hm.1; have q2 := hM.1; show sv_sz h - sv_sz h0 + 0 ≤ 600000; omega, by have q1 := hm.2.1; have q2 := hM.2.1; show sv_sl h - sv_sl h0 + 0 ≤ 7302250; omega⟩) hS (fun H locs hR hS => ?_)
      have hM := hM.trans (fr_X12_sectorOf hv25).le
      have hm := (fr_X12_sectorOf hv25).mono hm
      refine sv_csE (cells' := sv_sz h85 - sv_sz h0) (slots' := sv_sl h85 - sv_sl h0) (by have q := (fr_X12_sectorOf hv25).1; omega) (by have q := (fr_X12_sectorOf hv25).2.1; omega) rfl ?_
      refine lv_aload_n hx hb dL_law_596 rfl (lv_at hl 2 rfl) ?_
      refine lv_aload_n hx hb dL_law_597 rfl (lv_at hl 0 rfl) ?_
      refine lv_iload_n hx hb dL_law_598 rfl (lv_at hl 3 rfl) ?_
      refine lv_iconst (v := 1) hx hb dL_law_599 (by decide) ?_
      refine lv_iadd hx hb dL_law_600 ?_
      obtain ⟨v86, hv, hw⟩ := sv_bd hw
      obtain ⟨hin, hv⟩ := sv_if hv
      refine va_sld hx hb hX hbl hbA hS hin dL_law_601 ?_
      rw [hv]
      refine lv_aload_n hx hb dL_law_602 rfl (lv_at hl 0 rfl) ?_
      refine lv_iload_n hx hb dL_law_603 rfl (lv_at hl 3 rfl) ?_
      refine lv_iconst (v := 2) hx hb dL_law_604 (by decide) ?_
      refine lv_iadd hx hb dL_law_605 ?_
      obtain ⟨v87, hv, hw⟩ := sv_bd hw
      obtain ⟨hin, hv⟩ := sv_if hv
      refine va_sld hx hb hX hbl hbA hS hin dL_law_606 ?_
      rw [hv]
      obtain ⟨r88, h89, hv26, hw⟩ := sv_b_some hw
      refine sv_call (va_runV (As := [.int v86, .int v87]) (rest := [.int r84]) ⟨hx, hb, hml, hown, hts⟩ (mt_X17_sectorOf l G B hv26) (cwV 2 hts (sv_gV wd_2229 wd_2230 wd_2231 wd_144 wd_2232) rfl rfl rfl (by decide +kernel) ⟨Nat.le_of_ble_eq_true rfl, Nat.le_of_ble_eq_true rfl⟩) ⟨sv_blind, sv_recv hC.1 hR (ci := 17) (sv_go hv26).1 (by decide) rfl, fun U hU hW => sv_pre hC hR hS hBs hU hW⟩ rfl rfl hl.1 rfl (lv_room (Nat.le_of_ble_eq_true rfl)) dL_law_607 ⟨by have q1 := hm.1; have q2 := hM.1; show sv_sz h85 - sv_sz h0 + 0 ≤ 600000; omega, by have q1 := hm.2.1; have q2 := hM.2.1; show sv_sl h85 - sv_sl h0 + 0 ≤ 7302250; omega⟩) hS (fun H locs hR hS => ?_)
      have hM := hM.trans (fr_X17_sectorOf hv26).le
      have hm := (fr_X17_sectorOf hv26).mono hm
      refine sv_csE (cells' := sv_sz h89 - sv_sz h0) (slots' := sv_sl h89 - sv_sl h0) (by have q := (fr_X17_sectorOf hv26).1; omega) (by have q := (fr_X17_sectorOf hv26).2.1; omega) rfl ?_
      refine lv_icmp_eq (tgt := 866) hx hb dL_law_610 (by decide) (fun cc => ?_) (fun cc => ?_)
      · have hw := sv_ift cc hw
        exact lk_L_law_866 K hr1 hQ1 hQ2 hk18 hm18 hw hM hR hS (lv_sub hl [0, 1, 2, 3] rfl)
      · have hw := sv_iff cc hw
        refine lv_iconst (v := 0) hx hb dL_law_613 (by decide) ?_
        exact absurd ((sv_ret hw).1.trans hr1) (by decide)
    have hw := sv_iff c14 hw
    refine sv_em ((v1 &&& 31) = 15) (fun c15 => ?_) (fun c15 => ?_)
    · have hw := sv_ift c15 hw
      refine lv_tableIn (tgt := 615) (off := 583) hx hb dL_law_32 (by rw [c15]; decide) (by rw [c15]; decide) (by rw [c15]; rfl) (by decide) ?_
      refine lv_aload_n hx hb dL_law_615 rfl (lv_at hl 1 rfl) ?_
      refine lv_aload_n hx hb dL_law_616 rfl (lv_at hl 0 rfl) ?_
      refine lv_iload_n hx hb dL_law_617 rfl (lv_at hl 3 rfl) ?_
      refine lv_iconst (v := 1) hx hb dL_law_618 (by decide) ?_
      refine lv_iadd hx hb dL_law_619 ?_
      obtain ⟨v90, hv, hw⟩ := sv_bd hw
      obtain ⟨hin, hv⟩ := sv_if hv
      refine va_sld hx hb hX hbl hbA hS hin dL_law_620 ?_
      rw [hv]
      refine lv_aload_n hx hb dL_law_621 rfl (lv_at hl 0 rfl) ?_
      refine lv_iload_n hx hb dL_law_622 rfl (lv_at hl 3 rfl) ?_
      refine lv_iconst (v := 2) hx hb dL_law_623 (by decide) ?_
      refine lv_iadd hx hb dL_law_624 ?_
      obtain ⟨v91, hv, hw⟩ := sv_bd hw
      obtain ⟨hin, hv⟩ := sv_if hv
      refine va_sld hx hb hX hbl hbA hS hin dL_law_625 ?_
      rw [hv]
      obtain ⟨r92, h93, hv27, hw⟩ := sv_b_some hw
      refine sv_call (va_runV (As := [.int v90, .int v91]) (rest := []) ⟨hx, hb, hml, hown, hts⟩ (mt_X12_pixelAt l G B hv27) (cwV 2 hts (sv_gV wd_1274 wd_1275 wd_1276 wd_131 wd_1277) rfl rfl rfl (by decide +kernel) ⟨Nat.le_of_ble_eq_true rfl, Nat.le_of_ble_eq_true rfl⟩) ⟨sv_blind, sv_recv hC.1 hR (ci := 12) (sv_go hv27).1 (by decide) rfl, fun U hU hW => sv_pre hC hR hS hBs hU hW⟩ rfl rfl hl.1 rfl (lv_room (Nat.le_of_ble_eq_true rfl)) dL_law_626 ⟨by have q1 := hm.1; have q2 := hM.1; show sv_sz h - sv_sz h0 + 0 ≤ 600000; omega, by have q1 := hm.2.1; have q2 := hM.2.1; show sv_sl h - sv_sl h0 + 0 ≤ 7302250; omega⟩) hS (fun H locs hR hS => ?_)
      have hM := hM.trans (fr_X12_pixelAt hv27).le
      have hm := (fr_X12_pixelAt hv27).mono hm
      refine sv_csE (cells' := sv_sz h93 - sv_sz h0) (slots' := sv_sl h93 - sv_sl h0) (by have q := (fr_X12_pixelAt hv27).1; omega) (by have q := (fr_X12_pixelAt hv27).2.1; omega) rfl ?_
      refine lv_aload_n hx hb dL_law_629 rfl (lv_at hl 2 rfl) ?_
      refine lv_aload_n hx hb dL_law_630 rfl (lv_at hl 0 rfl) ?_
      refine lv_iload_n hx hb dL_law_631 rfl (lv_at hl 3 rfl) ?_
      refine lv_iconst (v := 1) hx hb dL_law_632 (by decide) ?_
      refine lv_iadd hx hb dL_law_633 ?_
      obtain ⟨v94, hv, hw⟩ := sv_bd hw
      obtain ⟨hin, hv⟩ := sv_if hv
      refine va_sld hx hb hX hbl hbA hS hin dL_law_634 ?_
      rw [hv]
      refine lv_aload_n hx hb dL_law_635 rfl (lv_at hl 0 rfl) ?_
      refine lv_iload_n hx hb dL_law_636 rfl (lv_at hl 3 rfl) ?_
      refine lv_iconst (v := 2) hx hb dL_law_637 (by decide) ?_
      refine lv_iadd hx hb dL_law_638 ?_
      obtain ⟨v95, hv, hw⟩ := sv_bd hw
      obtain ⟨hin, hv⟩ := sv_if hv
      refine va_sld hx hb hX hbl hbA hS hin dL_law_639 ?_
      rw [hv]
      obtain ⟨r96, h97, hv28, hw⟩ := sv_b_some hw
      refine sv_call (va_runV (As := [.int v94, .int v95]) (rest := [.int r92]) ⟨hx, hb, hml, hown, hts⟩ (mt_X17_pixelAt l G B hv28) (cwV 2 hts (sv_gV wd_2011 wd_2012 wd_2013 wd_144 wd_2014) rfl rfl rfl (by decide +kernel) ⟨Nat.le_of_ble_eq_true rfl, Nat.le_of_ble_eq_true rfl⟩) ⟨sv_blind, sv_recv hC.1 hR (ci := 17) (sv_go hv28).1 (by decide) rfl, fun U hU hW => sv_pre hC hR hS hBs hU hW⟩ rfl rfl hl.1 rfl (lv_room (Nat.le_of_ble_eq_true rfl)) dL_law_640 ⟨by have q1 := hm.1; have q2 := hM.1; show sv_sz h93 - sv_sz h0 + 0 ≤ 600000; omega, by have q1 := hm.2.1; have q2 := hM.2.1; show sv_sl h93 - sv_sl h0 + 0 ≤ 7302250; omega⟩) hS (fun H locs hR hS => ?_)
      have hM := hM.trans (fr_X17_pixelAt hv28).le
      have hm := (fr_X17_pixelAt hv28).mono hm
      refine sv_csE (cells' := sv_sz h97 - sv_sz h0) (slots' := sv_sl h97 - sv_sl h0) (by have q := (fr_X17_pixelAt hv28).1; omega) (by have q := (fr_X17_pixelAt hv28).2.1; omega) rfl ?_
      refine lv_icmp_eq (tgt := 866) hx hb dL_law_643 (by decide) (fun cc => ?_) (fun cc => ?_)
      · have hw := sv_ift cc hw
        exact lk_L_law_866 K hr1 hQ1 hQ2 hk18 hm18 hw hM hR hS (lv_sub hl [0, 1, 2, 3] rfl)
      · have hw := sv_iff cc hw
        refine lv_iconst (v := 0) hx hb dL_law_646 (by decide) ?_
        exact absurd ((sv_ret hw).1.trans hr1) (by decide)
    have hw := sv_iff c15 hw
    refine sv_em ((v1 &&& 31) = 16) (fun c16 => ?_) (fun c16 => ?_)
    · have hw := sv_ift c16 hw
      refine lv_tableIn (tgt := 648) (off := 616) hx hb dL_law_32 (by rw [c16]; decide) (by rw [c16]; decide) (by rw [c16]; rfl) (by decide) ?_
      refine lv_aload_n hx hb dL_law_648 rfl (lv_at hl 1 rfl) ?_
      refine lv_aload_n hx hb dL_law_649 rfl (lv_at hl 0 rfl) ?_
      refine lv_iload_n hx hb dL_law_650 rfl (lv_at hl 3 rfl) ?_
      refine lv_iconst (v := 1) hx hb dL_law_651 (by decide) ?_
      refine lv_iadd hx hb dL_law_652 ?_
      obtain ⟨v98, hv, hw⟩ := sv_bd hw
      obtain ⟨hin, hv⟩ := sv_if hv
      refine va_sld hx hb hX hbl hbA hS hin dL_law_653 ?_
      rw [hv]
      refine lv_aload_n hx hb dL_law_654 rfl (lv_at hl 0 rfl) ?_
      refine lv_iload_n hx hb dL_law_655 rfl (lv_at hl 3 rfl) ?_
      refine lv_iconst (v := 2) hx hb dL_law_656 (by decide) ?_
      refine lv_iadd hx hb dL_law_657 ?_
      obtain ⟨v99, hv, hw⟩ := sv_bd hw
      obtain ⟨hin, hv⟩ := sv_if hv
      refine va_sld hx hb hX hbl hbA hS hin dL_law_658 ?_
      rw [hv]
      obtain ⟨r100, h101, hv29, hw⟩ := sv_b_some hw
      refine sv_call (va_runV (As := [.int v98, .int v99]) (rest := []) ⟨hx, hb, hml, hown, hts⟩ (mt_X12_surfaceAt l G B hv29) (cwV 2 hts (sv_gV wd_1360 wd_1361 wd_1362 wd_131 wd_1363) rfl rfl rfl (by decide +kernel) ⟨Nat.le_of_ble_eq_true rfl, Nat.le_of_ble_eq_true rfl⟩) ⟨sv_blind, sv_recv hC.1 hR (ci := 12) (sv_go hv29).1 (by decide) rfl, fun U hU hW => sv_pre hC hR hS hBs hU hW⟩ rfl rfl hl.1 rfl (lv_room (Nat.le_of_ble_eq_true rfl)) dL_law_659 ⟨by have q1 := hm.1; have q2 := hM.1; show sv_sz h - sv_sz h0 + 0 ≤ 600000; omega, by have q1 := hm.2.1; have q2 := hM.2.1; show sv_sl h - sv_sl h0 + 0 ≤ 7302250; omega⟩) hS (fun H locs hR hS => ?_)
      have hM := hM.trans (fr_X12_surfaceAt hv29).le
      have hm := (fr_X12_surfaceAt hv29).mono hm
      refine sv_csE (cells' := sv_sz h101 - sv_sz h0) (slots' := sv_sl h101 - sv_sl h0) (by have q := (fr_X12_surfaceAt hv29).1; omega) (by have q := (fr_X12_surfaceAt hv29).2.1; omega) rfl ?_
      refine lv_aload_n hx hb dL_law_662 rfl (lv_at hl 2 rfl) ?_
      refine lv_aload_n hx hb dL_law_663 rfl (lv_at hl 0 rfl) ?_
      refine lv_iload_n hx hb dL_law_664 rfl (lv_at hl 3 rfl) ?_
      refine lv_iconst (v := 1) hx hb dL_law_665 (by decide) ?_
      refine lv_iadd hx hb dL_law_666 ?_
      obtain ⟨v102, hv, hw⟩ := sv_bd hw
      obtain ⟨hin, hv⟩ := sv_if hv
      refine va_sld hx hb hX hbl hbA hS hin dL_law_667 ?_
      rw [hv]
      refine lv_aload_n hx hb dL_law_668 rfl (lv_at hl 0 rfl) ?_
      refine lv_iload_n hx hb dL_law_669 rfl (lv_at hl 3 rfl) ?_
      refine lv_iconst (v := 2) hx hb dL_law_670 (by decide) ?_
      refine lv_iadd hx hb dL_law_671 ?_
      obtain ⟨v103, hv, hw⟩ := sv_bd hw
      obtain ⟨hin, hv⟩ := sv_if hv
      refine va_sld hx hb hX hbl hbA hS hin dL_law_672 ?_
      rw [hv]
      obtain ⟨r104, h105, hv30, hw⟩ := sv_b_some hw
      refine sv_call (va_runV (As := [.int v102, .int v103]) (rest := [.int r100]) ⟨hx, hb, hml, hown, hts⟩ (mt_X17_surfaceAt l G B hv30) (cwV 2 hts (sv_gV wd_2124 wd_2125 wd_2126 wd_144 wd_2127) rfl rfl rfl (by decide +kernel) ⟨Nat.le_of_ble_eq_true rfl, Nat.le_of_ble_eq_true rfl⟩) ⟨sv_blind, sv_recv hC.1 hR (ci := 17) (sv_go hv30).1 (by decide) rfl, fun U hU hW => sv_pre hC hR hS hBs hU hW⟩ rfl rfl hl.1 rfl (lv_room (Nat.le_of_ble_eq_true rfl)) dL_law_673 ⟨by have q1 := hm.1; have q2 := hM.1; show sv_sz h101 - sv_sz h0 + 0 ≤ 600000; omega, by have q1 := hm.2.1; have q2 := hM.2.1; show sv_sl h101 - sv_sl h0 + 0 ≤ 7302250; omega⟩) hS (fun H locs hR hS => ?_)
      have hM := hM.trans (fr_X17_surfaceAt hv30).le
      have hm := (fr_X17_surfaceAt hv30).mono hm
      refine sv_csE (cells' := sv_sz h105 - sv_sz h0) (slots' := sv_sl h105 - sv_sl h0) (by have q := (fr_X17_surfaceAt hv30).1; omega) (by have q := (fr_X17_surfaceAt hv30).2.1; omega) rfl ?_
      refine lv_icmp_eq (tgt := 866) hx hb dL_law_676 (by decide) (fun cc => ?_) (fun cc => ?_)
      · have hw := sv_ift cc hw
        exact lk_L_law_866 K hr1 hQ1 hQ2 hk18 hm18 hw hM hR hS (lv_sub hl [0, 1, 2, 3] rfl)
      · have hw := sv_iff cc hw
        refine lv_iconst (v := 0) hx hb dL_law_679 (by decide) ?_
        exact absurd ((sv_ret hw).1.trans hr1) (by decide)
    have hw := sv_iff c16 hw
    refine sv_em ((v1 &&& 31) = 17) (fun c17 => ?_) (fun c17 => ?_)
    · have hw := sv_ift c17 hw
      refine lv_tableIn (tgt := 681) (off := 649) hx hb dL_law_32 (by rw [c17]; decide) (by rw [c17]; decide) (by rw [c17]; rfl) (by decide) ?_
      refine lv_aload_n hx hb dL_law_681 rfl (lv_at hl 1 rfl) ?_
      refine lv_aload_n hx hb dL_law_682 rfl (lv_at hl 0 rfl) ?_
      refine lv_iload_n hx hb dL_law_683 rfl (lv_at hl 3 rfl) ?_
      refine lv_iconst (v := 1) hx hb dL_law_684 (by decide) ?_
      refine lv_iadd hx hb dL_law_685 ?_
      obtain ⟨v106, hv, hw⟩ := sv_bd hw
      obtain ⟨hin, hv⟩ := sv_if hv
      refine va_sld hx hb hX hbl hbA hS hin dL_law_686 ?_
      rw [hv]
      refine lv_aload_n hx hb dL_law_687 rfl (lv_at hl 0 rfl) ?_
      refine lv_iload_n hx hb dL_law_688 rfl (lv_at hl 3 rfl) ?_
      refine lv_iconst (v := 2) hx hb dL_law_689 (by decide) ?_
      refine lv_iadd hx hb dL_law_690 ?_
      obtain ⟨v107, hv, hw⟩ := sv_bd hw
      obtain ⟨hin, hv⟩ := sv_if hv
      refine va_sld hx hb hX hbl hbA hS hin dL_law_691 ?_
      rw [hv]
      obtain ⟨r108, h109, hv31, hw⟩ := sv_b_some hw
      refine sv_call (va_runV (As := [.int v106, .int v107]) (rest := []) ⟨hx, hb, hml, hown, hts⟩ (mt_X12_metAt l G B hv31) (cwV 2 hts (sv_gV wd_1364 wd_1365 wd_1366 wd_131 wd_1367) rfl rfl rfl (by decide +kernel) ⟨Nat.le_of_ble_eq_true rfl, Nat.le_of_ble_eq_true rfl⟩) ⟨sv_blind, sv_recv hC.1 hR (ci := 12) (sv_go hv31).1 (by decide) rfl, fun U hU hW => sv_pre hC hR hS hBs hU hW⟩ rfl rfl hl.1 rfl (lv_room (Nat.le_of_ble_eq_true rfl)) dL_law_692 ⟨by have q1 := hm.1; have q2 := hM.1; show sv_sz h - sv_sz h0 + 0 ≤ 600000; omega, by have q1 := hm.2.1; have q2 := hM.2.1; show sv_sl h - sv_sl h0 + 0 ≤ 7302250; omega⟩) hS (fun H locs hR hS => ?_)
      have hM := hM.trans (fr_X12_metAt hv31).le
      have hm := (fr_X12_metAt hv31).mono hm
      refine sv_csE (cells' := sv_sz h109 - sv_sz h0) (slots' := sv_sl h109 - sv_sl h0) (by have q := (fr_X12_metAt hv31).1; omega) (by have q := (fr_X12_metAt hv31).2.1; omega) rfl ?_
      refine lv_aload_n hx hb dL_law_695 rfl (lv_at hl 2 rfl) ?_
      refine lv_aload_n hx hb dL_law_696 rfl (lv_at hl 0 rfl) ?_
      refine lv_iload_n hx hb dL_law_697 rfl (lv_at hl 3 rfl) ?_
      refine lv_iconst (v := 1) hx hb dL_law_698 (by decide) ?_
      refine lv_iadd hx hb dL_law_699 ?_
      obtain ⟨v110, hv, hw⟩ := sv_bd hw
      obtain ⟨hin, hv⟩ := sv_if hv
      refine va_sld hx hb hX hbl hbA hS hin dL_law_700 ?_
      rw [hv]
      refine lv_aload_n hx hb dL_law_701 rfl (lv_at hl 0 rfl) ?_
      refine lv_iload_n hx hb dL_law_702 rfl (lv_at hl 3 rfl) ?_
      refine lv_iconst (v := 2) hx hb dL_law_703 (by decide) ?_
      refine lv_iadd hx hb dL_law_704 ?_
      obtain ⟨v111, hv, hw⟩ := sv_bd hw
      obtain ⟨hin, hv⟩ := sv_if hv
      refine va_sld hx hb hX hbl hbA hS hin dL_law_705 ?_
      rw [hv]
      obtain ⟨r112, h113, hv32, hw⟩ := sv_b_some hw
      refine sv_call (va_runV (As := [.int v110, .int v111]) (rest := [.int r108]) ⟨hx, hb, hml, hown, hts⟩ (mt_X17_metAt l G B hv32) (cwV 2 hts (sv_gV wd_2128 wd_2129 wd_2130 wd_144 wd_2131) rfl rfl rfl (by decide +kernel) ⟨Nat.le_of_ble_eq_true rfl, Nat.le_of_ble_eq_true rfl⟩) ⟨sv_blind, sv_recv hC.1 hR (ci := 17) (sv_go hv32).1 (by decide) rfl, fun U hU hW => sv_pre hC hR hS hBs hU hW⟩ rfl rfl hl.1 rfl (lv_room (Nat.le_of_ble_eq_true rfl)) dL_law_706 ⟨by have q1 := hm.1; have q2 := hM.1; show sv_sz h109 - sv_sz h0 + 0 ≤ 600000; omega, by have q1 := hm.2.1; have q2 := hM.2.1; show sv_sl h109 - sv_sl h0 + 0 ≤ 7302250; omega⟩) hS (fun H locs hR hS => ?_)
      have hM := hM.trans (fr_X17_metAt hv32).le
      have hm := (fr_X17_metAt hv32).mono hm
      refine sv_csE (cells' := sv_sz h113 - sv_sz h0) (slots' := sv_sl h113 - sv_sl h0) (by have q := (fr_X17_metAt hv32).1; omega) (by have q := (fr_X17_metAt hv32).2.1; omega) rfl ?_
      refine lv_icmp_eq (tgt := 866) hx hb dL_law_709 (by decide) (fun cc => ?_) (fun cc => ?_)
      · have hw := sv_ift cc hw
        exact lk_L_law_866 K hr1 hQ1 hQ2 hk18 hm18 hw hM hR hS (lv_sub hl [0, 1, 2, 3] rfl)
      · have hw := sv_iff cc hw
        refine lv_iconst (v := 0) hx hb dL_law_712 (by decide) ?_
        exact absurd ((sv_ret hw).1.trans hr1) (by decide)
    have hw := sv_iff c17 hw
    refine sv_em ((v1 &&& 31) = 18) (fun c18 => ?_) (fun c18 => ?_)
    · have hw := sv_ift c18 hw
      refine lv_tableIn (tgt := 714) (off := 682) hx hb dL_law_32 (by rw [c18]; decide) (by rw [c18]; decide) (by rw [c18]; rfl) (by decide) ?_
      refine lv_aload_n hx hb dL_law_714 rfl (lv_at hl 1 rfl) ?_
      obtain ⟨r114, h115, hv33, hw⟩ := sv_b_some hw
      refine sv_call (va_runV (As := []) (rest := []) ⟨hx, hb, hml, hown, hts⟩ (mt_X12_frameOf l G B hv33) (cwV 0 hts (sv_gV wd_1368 wd_1369 wd_1370 wd_131 wd_1371) rfl rfl rfl (by decide +kernel) ⟨Nat.le_of_ble_eq_true rfl, Nat.le_of_ble_eq_true rfl⟩) ⟨sv_blind, sv_recv hC.1 hR (ci := 12) (sv_go hv33).1 (by decide) rfl, fun U hU hW => sv_pre hC hR hS hBs hU hW⟩ rfl rfl hl.1 rfl (lv_room (Nat.le_of_ble_eq_true rfl)) dL_law_715 ⟨by have q1 := hm.1; have q2 := hM.1; show sv_sz h - sv_sz h0 + 0 ≤ 600000; omega, by have q1 := hm.2.1; have q2 := hM.2.1; show sv_sl h - sv_sl h0 + 0 ≤ 7302250; omega⟩) hS (fun H locs hR hS => ?_)
      have hM := hM.trans (fr_X12_frameOf hv33).le
      have hm := (fr_X12_frameOf hv33).mono hm
      refine sv_csE (cells' := sv_sz h115 - sv_sz h0) (slots' := sv_sl h115 - sv_sl h0) (by have q := (fr_X12_frameOf hv33).1; omega) (by have q := (fr_X12_frameOf hv33).2.1; omega) rfl ?_
      refine lv_aload_n hx hb dL_law_718 rfl (lv_at hl 2 rfl) ?_
      obtain ⟨r116, h117, hv34, hw⟩ := sv_b_some hw
      refine sv_call (va_runV (As := []) (rest := [.long r114]) ⟨hx, hb, hml, hown, hts⟩ (mt_X17_frameOf l G B hv34) (cwV 0 hts (sv_gV wd_2132 wd_2133 wd_2134 wd_144 wd_2135) rfl rfl rfl (by decide +kernel) ⟨Nat.le_of_ble_eq_true rfl, Nat.le_of_ble_eq_true rfl⟩) ⟨sv_blind, sv_recv hC.1 hR (ci := 17) (sv_go hv34).1 (by decide) rfl, fun U hU hW => sv_pre hC hR hS hBs hU hW⟩ rfl rfl hl.1 rfl (lv_room (Nat.le_of_ble_eq_true rfl)) dL_law_719 ⟨by have q1 := hm.1; have q2 := hM.1; show sv_sz h115 - sv_sz h0 + 0 ≤ 600000; omega, by have q1 := hm.2.1; have q2 := hM.2.1; show sv_sl h115 - sv_sl h0 + 0 ≤ 7302250; omega⟩) hS (fun H locs hR hS => ?_)
      have hM := hM.trans (fr_X17_frameOf hv34).le
      have hm := (fr_X17_frameOf hv34).mono hm
      refine sv_csE (cells' := sv_sz h117 - sv_sz h0) (slots' := sv_sl h117 - sv_sl h0) (by have q := (fr_X17_frameOf hv34).1; omega) (by have q := (fr_X17_frameOf hv34).2.1; omega) rfl ?_
      refine W.lcmp hx hb dL_law_722 ?_
      refine lv_if_eq (tgt := 866) hx hb dL_law_723 (by decide) (fun cc => ?_) (fun cc => ?_)
      · have hw := sv_ift cc hw
        exact lk_L_law_866 K hr1 hQ1 hQ2 hk18 hm18 hw hM hR hS (lv_sub hl [0, 1, 2, 3] rfl)
      · have hw := sv_iff cc hw
        refine lv_iconst (v := 0) hx hb dL_law_726 (by decide) ?_
        exact absurd ((sv_ret hw).1.trans hr1) (by decide)
    have hw := sv_iff c18 hw
    refine sv_em ((v1 &&& 31) = 19) (fun c19 => ?_) (fun c19 => ?_)
    · have hw := sv_ift c19 hw
      refine lv_tableIn (tgt := 728) (off := 696) hx hb dL_law_32 (by rw [c19]; decide) (by rw [c19]; decide) (by rw [c19]; rfl) (by decide) ?_
      refine lv_aload_n hx hb dL_law_728 rfl (lv_at hl 1 rfl) ?_
      refine lv_aload_n hx hb dL_law_729 rfl (lv_at hl 0 rfl) ?_
      refine lv_iload_n hx hb dL_law_730 rfl (lv_at hl 3 rfl) ?_
      refine lv_iconst (v := 1) hx hb dL_law_731 (by decide) ?_
      refine lv_iadd hx hb dL_law_732 ?_
      obtain ⟨v118, hv, hw⟩ := sv_bd hw
      obtain ⟨hin, hv⟩ := sv_if hv
      refine va_sld hx hb hX hbl hbA hS hin dL_law_733 ?_
      rw [hv]
      refine lv_aload_n hx hb dL_law_734 rfl (lv_at hl 0 rfl) ?_
      refine lv_iload_n hx hb dL_law_735 rfl (lv_at hl 3 rfl) ?_
      refine lv_iconst (v := 2) hx hb dL_law_736 (by decide) ?_
      refine lv_iadd hx hb dL_law_737 ?_
      obtain ⟨v119, hv, hw⟩ := sv_bd hw
      obtain ⟨hin, hv⟩ := sv_if hv
      refine va_sld hx hb hX hbl hbA hS hin dL_law_738 ?_
      rw [hv]
      obtain ⟨r120, h121, hv35, hw⟩ := sv_b_some hw
      refine sv_call (va_runV (As := [.int v118, .int v119]) (rest := []) ⟨hx, hb, hml, hown, hts⟩ (mt_X12_nodeOf l G B hv35) (cwV 2 hts (sv_gV wd_1373 wd_1374 wd_1375 wd_131 wd_1376) rfl rfl rfl (by decide +kernel) ⟨Nat.le_of_ble_eq_true rfl, Nat.le_of_ble_eq_true rfl⟩) ⟨sv_blind, sv_recv hC.1 hR (ci := 12) (sv_go hv35).1 (by decide) rfl, fun U hU hW => sv_pre hC hR hS hBs hU hW⟩ rfl rfl hl.1 rfl (lv_room (Nat.le_of_ble_eq_true rfl)) dL_law_739 ⟨by have q1 := hm.1; have q2 := hM.1; show sv_sz h - sv_sz h0 + 0 ≤ 600000; omega, by have q1 := hm.2.1; have q2 := hM.2.1; show sv_sl h - sv_sl h0 + 0 ≤ 7302250; omega⟩) hS (fun H locs hR hS => ?_)
      have hM := hM.trans (fr_X12_nodeOf hv35).le
      have hm := (fr_X12_nodeOf hv35).mono hm
      refine sv_csE (cells' := sv_sz h121 - sv_sz h0) (slots' := sv_sl h121 - sv_sl h0) (by have q := (fr_X12_nodeOf hv35).1; omega) (by have q := (fr_X12_nodeOf hv35).2.1; omega) rfl ?_
      refine lv_aload_n hx hb dL_law_742 rfl (lv_at hl 2 rfl) ?_
      refine lv_aload_n hx hb dL_law_743 rfl (lv_at hl 0 rfl) ?_
      refine lv_iload_n hx hb dL_law_744 rfl (lv_at hl 3 rfl) ?_
      refine lv_iconst (v := 1) hx hb dL_law_745 (by decide) ?_
      refine lv_iadd hx hb dL_law_746 ?_
      obtain ⟨v122, hv, hw⟩ := sv_bd hw
      obtain ⟨hin, hv⟩ := sv_if hv
      refine va_sld hx hb hX hbl hbA hS hin dL_law_747 ?_
      rw [hv]
      refine lv_aload_n hx hb dL_law_748 rfl (lv_at hl 0 rfl) ?_
      refine lv_iload_n hx hb dL_law_749 rfl (lv_at hl 3 rfl) ?_
      refine lv_iconst (v := 2) hx hb dL_law_750 (by decide) ?_
      refine lv_iadd hx hb dL_law_751 ?_
      obtain ⟨v123, hv, hw⟩ := sv_bd hw
      obtain ⟨hin, hv⟩ := sv_if hv
      refine va_sld hx hb hX hbl hbA hS hin dL_law_752 ?_
      rw [hv]
      obtain ⟨r124, h125, hv36, hw⟩ := sv_b_some hw
      refine sv_call (va_runV (As := [.int v122, .int v123]) (rest := [.int r120]) ⟨hx, hb, hml, hown, hts⟩ (mt_X17_nodeOf l G B hv36) (cwV 2 hts (sv_gV wd_2233 wd_2234 wd_2235 wd_144 wd_2236) rfl rfl rfl (by decide +kernel) ⟨Nat.le_of_ble_eq_true rfl, Nat.le_of_ble_eq_true rfl⟩) ⟨sv_blind, sv_recv hC.1 hR (ci := 17) (sv_go hv36).1 (by decide) rfl, fun U hU hW => sv_pre hC hR hS hBs hU hW⟩ rfl rfl hl.1 rfl (lv_room (Nat.le_of_ble_eq_true rfl)) dL_law_753 ⟨by have q1 := hm.1; have q2 := hM.1; show sv_sz h121 - sv_sz h0 + 0 ≤ 600000; omega, by have q1 := hm.2.1; have q2 := hM.2.1; show sv_sl h121 - sv_sl h0 + 0 ≤ 7302250; omega⟩) hS (fun H locs hR hS => ?_)
      have hM := hM.trans (fr_X17_nodeOf hv36).le
      have hm := (fr_X17_nodeOf hv36).mono hm
      refine sv_csE (cells' := sv_sz h125 - sv_sz h0) (slots' := sv_sl h125 - sv_sl h0) (by have q := (fr_X17_nodeOf hv36).1; omega) (by have q := (fr_X17_nodeOf hv36).2.1; omega) rfl ?_
      refine lv_icmp_eq (tgt := 866) hx hb dL_law_756 (by decide) (fun cc => ?_) (fun cc => ?_)
      · have hw := sv_ift cc hw
        exact lk_L_law_866 K hr1 hQ1 hQ2 hk18 hm18 hw hM hR hS (lv_sub hl [0, 1, 2, 3] rfl)
      · have hw := sv_iff cc hw
        refine lv_iconst (v := 0) hx hb dL_law_759 (by decide) ?_
        exact absurd ((sv_ret hw).1.trans hr1) (by decide)
    have hw := sv_iff c19 hw
    refine sv_em ((v1 &&& 31) = 20) (fun c20 => ?_) (fun c20 => ?_)
    · have hw := sv_ift c20 hw
      refine lv_tableIn (tgt := 761) (off := 729) hx hb dL_law_32 (by rw [c20]; decide) (by rw [c20]; decide) (by rw [c20]; rfl) (by decide) ?_
      refine lv_aload_n hx hb dL_law_761 rfl (lv_at hl 1 rfl) ?_
      refine lv_aload_n hx hb dL_law_762 rfl (lv_at hl 0 rfl) ?_
      refine lv_iload_n hx hb dL_law_763 rfl (lv_at hl 3 rfl) ?_
      refine lv_iconst (v := 1) hx hb dL_law_764 (by decide) ?_
      refine lv_iadd hx hb dL_law_765 ?_
      obtain ⟨v126, hv, hw⟩ := sv_bd hw
      obtain ⟨hin, hv⟩ := sv_if hv
      refine va_sld hx hb hX hbl hbA hS hin dL_law_766 ?_
      rw [hv]
      refine lv_aload_n hx hb dL_law_767 rfl (lv_at hl 0 rfl) ?_
      refine lv_iload_n hx hb dL_law_768 rfl (lv_at hl 3 rfl) ?_
      refine lv_iconst (v := 2) hx hb dL_law_769 (by decide) ?_
      refine lv_iadd hx hb dL_law_770 ?_
      obtain ⟨v127, hv, hw⟩ := sv_bd hw
      obtain ⟨hin, hv⟩ := sv_if hv
      refine va_sld hx hb hX hbl hbA hS hin dL_law_771 ?_
      rw [hv]
      obtain ⟨r128, h129, hv37, hw⟩ := sv_b_some hw
      refine sv_call (va_runV (As := [.int v126, .int v127]) (rest := []) ⟨hx, hb, hml, hown, hts⟩ (mt_X12_leafOf l G B hv37) (cwV 2 hts (sv_gV wd_1378 wd_1379 wd_1380 wd_131 wd_1381) rfl rfl rfl (by decide +kernel) ⟨Nat.le_of_ble_eq_true rfl, Nat.le_of_ble_eq_true rfl⟩) ⟨sv_blind, sv_recv hC.1 hR (ci := 12) (sv_go hv37).1 (by decide) rfl, fun U hU hW => sv_pre hC hR hS hBs hU hW⟩ rfl rfl hl.1 rfl (lv_room (Nat.le_of_ble_eq_true rfl)) dL_law_772 ⟨by have q1 := hm.1; have q2 := hM.1; show sv_sz h - sv_sz h0 + 0 ≤ 600000; omega, by have q1 := hm.2.1; have q2 := hM.2.1; show sv_sl h - sv_sl h0 + 0 ≤ 7302250; omega⟩) hS (fun H locs hR hS => ?_)
      have hM := hM.trans (fr_X12_leafOf hv37).le
      have hm := (fr_X12_leafOf hv37).mono hm
      refine sv_csE (cells' := sv_sz h129 - sv_sz h0) (slots' := sv_sl h129 - sv_sl h0) (by have q := (fr_X12_leafOf hv37).1; omega) (by have q := (fr_X12_leafOf hv37).2.1; omega) rfl ?_
      refine lv_aload_n hx hb dL_law_775 rfl (lv_at hl 2 rfl) ?_
      refine lv_aload_n hx hb dL_law_776 rfl (lv_at hl 0 rfl) ?_
      refine lv_iload_n hx hb dL_law_777 rfl (lv_at hl 3 rfl) ?_
      refine lv_iconst (v := 1) hx hb dL_law_778 (by decide) ?_
      refine lv_iadd hx hb dL_law_779 ?_
      obtain ⟨v130, hv, hw⟩ := sv_bd hw
      obtain ⟨hin, hv⟩ := sv_if hv
      refine va_sld hx hb hX hbl hbA hS hin dL_law_780 ?_
      rw [hv]
      refine lv_aload_n hx hb dL_law_781 rfl (lv_at hl 0 rfl) ?_
      refine lv_iload_n hx hb dL_law_782 rfl (lv_at hl 3 rfl) ?_
      refine lv_iconst (v := 2) hx hb dL_law_783 (by decide) ?_
      refine lv_iadd hx hb dL_law_784 ?_
      obtain ⟨v131, hv, hw⟩ := sv_bd hw
      obtain ⟨hin, hv⟩ := sv_if hv
      refine va_sld hx hb hX hbl hbA hS hin dL_law_785 ?_
      rw [hv]
      obtain ⟨r132, h133, hv38, hw⟩ := sv_b_some hw
      refine sv_call (va_runV (As := [.int v130, .int v131]) (rest := [.int r128]) ⟨hx, hb, hml, hown, hts⟩ (mt_X17_leafOf l G B hv38) (cwV 2 hts (sv_gV wd_2298 wd_2299 wd_2300 wd_144 wd_2301) rfl rfl rfl (by decide +kernel) ⟨Nat.le_of_ble_eq_true rfl, Nat.le_of_ble_eq_true rfl⟩) ⟨sv_blind, sv_recv hC.1 hR (ci := 17) (sv_go hv38).1 (by decide) rfl, fun U hU hW => sv_pre hC hR hS hBs hU hW⟩ rfl rfl hl.1 rfl (lv_room (Nat.le_of_ble_eq_true rfl)) dL_law_786 ⟨by have q1 := hm.1; have q2 := hM.1; show sv_sz h129 - sv_sz h0 + 0 ≤ 600000; omega, by have q1 := hm.2.1; have q2 := hM.2.1; show sv_sl h129 - sv_sl h0 + 0 ≤ 7302250; omega⟩) hS (fun H locs hR hS => ?_)
      have hM := hM.trans (fr_X17_leafOf hv38).le
      have hm := (fr_X17_leafOf hv38).mono hm
      refine sv_csE (cells' := sv_sz h133 - sv_sz h0) (slots' := sv_sl h133 - sv_sl h0) (by have q := (fr_X17_leafOf hv38).1; omega) (by have q := (fr_X17_leafOf hv38).2.1; omega) rfl ?_
      refine lv_icmp_eq (tgt := 866) hx hb dL_law_789 (by decide) (fun cc => ?_) (fun cc => ?_)
      · have hw := sv_ift cc hw
        exact lk_L_law_866 K hr1 hQ1 hQ2 hk18 hm18 hw hM hR hS (lv_sub hl [0, 1, 2, 3] rfl)
      · have hw := sv_iff cc hw
        refine lv_iconst (v := 0) hx hb dL_law_792 (by decide) ?_
        exact absurd ((sv_ret hw).1.trans hr1) (by decide)
    have hw := sv_iff c20 hw
    refine sv_em ((v1 &&& 31) = 21) (fun c21 => ?_) (fun c21 => ?_)
    · have hw := sv_ift c21 hw
      refine lv_tableIn (tgt := 794) (off := 762) hx hb dL_law_32 (by rw [c21]; decide) (by rw [c21]; decide) (by rw [c21]; rfl) (by decide) ?_
      refine lv_aload_n hx hb dL_law_794 rfl (lv_at hl 1 rfl) ?_
      refine lv_aload_n hx hb dL_law_795 rfl (lv_at hl 0 rfl) ?_
      refine lv_iload_n hx hb dL_law_796 rfl (lv_at hl 3 rfl) ?_
      refine lv_iconst (v := 1) hx hb dL_law_797 (by decide) ?_
      refine lv_iadd hx hb dL_law_798 ?_
      obtain ⟨v134, hv, hw⟩ := sv_bd hw
      obtain ⟨hin, hv⟩ := sv_if hv
      refine va_sld hx hb hX hbl hbA hS hin dL_law_799 ?_
      rw [hv]
      refine lv_aload_n hx hb dL_law_800 rfl (lv_at hl 0 rfl) ?_
      refine lv_iload_n hx hb dL_law_801 rfl (lv_at hl 3 rfl) ?_
      refine lv_iconst (v := 2) hx hb dL_law_802 (by decide) ?_
      refine lv_iadd hx hb dL_law_803 ?_
      obtain ⟨v135, hv, hw⟩ := sv_bd hw
      obtain ⟨hin, hv⟩ := sv_if hv
      refine va_sld hx hb hX hbl hbA hS hin dL_law_804 ?_
      rw [hv]
      refine lv_if_eq (tgt := 812) hx hb dL_law_805 (by decide) (fun cc => ?_) (fun cc => ?_)
      · have hw := sv_ift cc hw
        refine lv_iconst (v := 0) hx hb dL_law_812 (by decide) ?_
        exact lk_L_law_813 K hr1 hQ1 hQ2 hk18 hm18 hw hM hR hS (lv_sub hl [0, 1, 2, 3] rfl)
      · have hw := sv_iff cc hw
        refine lv_iconst (v := 1) hx hb dL_law_808 (by decide) ?_
        refine lv_goto (tgt := 813) hx hb dL_law_809 (by decide) ?_
        exact lk_L_law_813 K hr1 hQ1 hQ2 hk18 hm18 hw hM hR hS (lv_sub hl [0, 1, 2, 3] rfl)
    have hw := sv_iff c21 hw
    refine sv_em ((v1 &&& 31) = 22) (fun c22 => ?_) (fun c22 => ?_)
    · have hw := sv_ift c22 hw
      refine lv_tableIn (tgt := 843) (off := 811) hx hb dL_law_32 (by rw [c22]; decide) (by rw [c22]; decide) (by rw [c22]; rfl) (by decide) ?_
      refine lv_aload_n hx hb dL_law_843 rfl (lv_at hl 1 rfl) ?_
      refine lv_aload_n hx hb dL_law_844 rfl (lv_at hl 0 rfl) ?_
      refine lv_iload_n hx hb dL_law_845 rfl (lv_at hl 3 rfl) ?_
      refine lv_iconst (v := 1) hx hb dL_law_846 (by decide) ?_
      refine lv_iadd hx hb dL_law_847 ?_
      obtain ⟨v136, hv, hw⟩ := sv_bd hw
      obtain ⟨hin, hv⟩ := sv_if hv
      refine va_sld hx hb hX hbl hbA hS hin dL_law_848 ?_
      rw [hv]
      obtain ⟨r137, h138, hv39, hw⟩ := sv_b_some hw
      refine sv_call (va_runV (As := [.int v136]) (rest := []) ⟨hx, hb, hml, hown, hts⟩ (mt_X12_lookAt l G B hv39) (cwV 1 hts (sv_gV wd_1391 wd_1392 wd_1393 wd_131 wd_1394) rfl rfl rfl (by decide +kernel) ⟨Nat.le_of_ble_eq_true rfl, Nat.le_of_ble_eq_true rfl⟩) ⟨sv_blind, sv_recv hC.1 hR (ci := 12) (sv_go hv39).1 (by decide) rfl, fun U hU hW => sv_pre hC hR hS hBs hU hW⟩ rfl rfl hl.1 rfl (lv_room (Nat.le_of_ble_eq_true rfl)) dL_law_849 ⟨by have q1 := hm.1; have q2 := hM.1; show sv_sz h - sv_sz h0 + 0 ≤ 600000; omega, by have q1 := hm.2.1; have q2 := hM.2.1; show sv_sl h - sv_sl h0 + 0 ≤ 7302250; omega⟩) hS (fun H locs hR hS => ?_)
      have hM := hM.trans (fr_X12_lookAt hv39).le
      have hm := (fr_X12_lookAt hv39).mono hm
      refine sv_csE (cells' := sv_sz h138 - sv_sz h0) (slots' := sv_sl h138 - sv_sl h0) (by have q := (fr_X12_lookAt hv39).1; omega) (by have q := (fr_X12_lookAt hv39).2.1; omega) rfl ?_
      refine lv_aload_n hx hb dL_law_852 rfl (lv_at hl 2 rfl) ?_
      refine lv_aload_n hx hb dL_law_853 rfl (lv_at hl 0 rfl) ?_
      refine lv_iload_n hx hb dL_law_854 rfl (lv_at hl 3 rfl) ?_
      refine lv_iconst (v := 1) hx hb dL_law_855 (by decide) ?_
      refine lv_iadd hx hb dL_law_856 ?_
      obtain ⟨v139, hv, hw⟩ := sv_bd hw
      obtain ⟨hin, hv⟩ := sv_if hv
      refine va_sld hx hb hX hbl hbA hS hin dL_law_857 ?_
      rw [hv]
      obtain ⟨r140, h141, hv40, hw⟩ := sv_b_some hw
      refine sv_call (va_runV (As := [.int v139]) (rest := [.int r137]) ⟨hx, hb, hml, hown, hts⟩ (mt_X17_lookAt l G B hv40) (cwV 1 hts (sv_gV wd_2313 wd_2314 wd_2315 wd_144 wd_2316) rfl rfl rfl (by decide +kernel) ⟨Nat.le_of_ble_eq_true rfl, Nat.le_of_ble_eq_true rfl⟩) ⟨sv_blind, sv_recv hC.1 hR (ci := 17) (sv_go hv40).1 (by decide) rfl, fun U hU hW => sv_pre hC hR hS hBs hU hW⟩ rfl rfl hl.1 rfl (lv_room (Nat.le_of_ble_eq_true rfl)) dL_law_858 ⟨by have q1 := hm.1; have q2 := hM.1; show sv_sz h138 - sv_sz h0 + 0 ≤ 600000; omega, by have q1 := hm.2.1; have q2 := hM.2.1; show sv_sl h138 - sv_sl h0 + 0 ≤ 7302250; omega⟩) hS (fun H locs hR hS => ?_)
      have hM := hM.trans (fr_X17_lookAt hv40).le
      have hm := (fr_X17_lookAt hv40).mono hm
      refine sv_csE (cells' := sv_sz h141 - sv_sz h0) (slots' := sv_sl h141 - sv_sl h0) (by have q := (fr_X17_lookAt hv40).1; omega) (by have q := (fr_X17_lookAt hv40).2.1; omega) rfl ?_
      refine lv_icmp_eq (tgt := 866) hx hb dL_law_861 (by decide) (fun cc => ?_) (fun cc => ?_)
      · have hw := sv_ift cc hw
        exact lk_L_law_866 K hr1 hQ1 hQ2 hk18 hm18 hw hM hR hS (lv_sub hl [0, 1, 2, 3] rfl)
      · have hw := sv_iff cc hw
        refine lv_iconst (v := 0) hx hb dL_law_864 (by decide) ?_
        exact absurd ((sv_ret hw).1.trans hr1) (by decide)
    have hw := sv_iff c22 hw
    have n0 := lv_neT c0 (a := 0) rfl
    have n1 := lv_neT c1 (a := 1) rfl
    have n2 := lv_neT c2 (a := 2) rfl
    have n3 := lv_neT c3 (a := 3) rfl
    have n4 := lv_neT c4 (a := 4) rfl
    have n5 := lv_neT c5 (a := 5) rfl
    have n6 := lv_neT c6 (a := 6) rfl
    have n7 := lv_neT c7 (a := 7) rfl
    have n8 := lv_neT c8 (a := 8) rfl
    have n9 := lv_neT c9 (a := 9) rfl
    have n10 := lv_neT c10 (a := 10) rfl
    have n11 := lv_neT c11 (a := 11) rfl
    have n12 := lv_neT c12 (a := 12) rfl
    have n13 := lv_neT c13 (a := 13) rfl
    have n14 := lv_neT c14 (a := 14) rfl
    have n15 := lv_neT c15 (a := 15) rfl
    have n16 := lv_neT c16 (a := 16) rfl
    have n17 := lv_neT c17 (a := 17) rfl
    have n18 := lv_neT c18 (a := 18) rfl
    have n19 := lv_neT c19 (a := 19) rfl
    have n20 := lv_neT c20 (a := 20) rfl
    have n21 := lv_neT c21 (a := 21) rfl
    have n22 := lv_neT c22 (a := 22) rfl
    refine lv_tableOut (tgt := 866) hx hb dL_law_32 (by omega) (by decide) ?_
    exact lk_L_law_866 K hr1 hQ1 hQ2 hk18 hm18 hw hM hR hS (lv_sub hl [0, 1, 2, 3] rfl)
theorem lk_L_law_18 {p : Program} {l : Launch} {e : Env} {s : State} {m : MethodId} {below : List Frame} {meth : Method} {c : Code} {G : sv_G} {B b L : Nat} {xs : Nat → Int32} (K : sv_LW p s m meth c b L xs G B) {r : Int32} (hr1 : r = 1) {hE : sv_H} {h0 : sv_H} (hQ1 : sv_sz hE - sv_sz h0 ≤ 600000) (hQ2 : sv_sl hE - sv_sl h0 ≤ 7302250) : ∀ (n : Nat) {x1 : Nat} {x2 : Nat} {x3 : Int32} {h : sv_H}, fn_L_law_18 xs L n x1 x2 x3 h = some (r, hE) → sv_le h0 h → ∀ {H : Heap} {locs : List Loc} {ls : Array Slot}, sv_R G vwCl sv_ft B h H → va_S (fun q => B ≤ q) s.heap H locs → lv_has ls 4 [(0, .ref b), (1, .ref x1), (2, .ref x2), (3, .int x3)] → W p l e room_1 s m #[Value.ref b] below meth c H locs (sv_sz h - sv_sz h0) (sv_sl h - sv_sl h0) (lw_Z below #[Value.ref b] s) (F0 m 18 ls []) := by
  intro n
  induction n with
  | zero => intro x1 x2 x3 h hw; cases (show (none : Option (Int32 × sv_H)) = some (r, hE) from hw)
  | succ n ih => intro x1 x2 x3 h hw hM H locs ls hR hS hl; exact lk_L_law_18b K hr1 hQ1 hQ2 (fun hw => ih hw) (fun hs => fr_L_law_18 n hs) hw hM hR hS hl
set_option maxHeartbeats 4000000 in
set_option maxRecDepth 100000 in
theorem lk_L_law_0 {p : Program} {l : Launch} {e : Env} {s : State} {m : MethodId} {below : List Frame} {meth : Method} {c : Code} {G : sv_G} {B b L : Nat} {xs : Nat → Int32} (K : sv_LW p s m meth c b L xs G B) {r : Int32} (hr1 : r = 1) {hE : sv_H} {h0 : sv_H} (hQ1 : sv_sz hE - sv_sz h0 ≤ 600000) (hQ2 : sv_sl hE - sv_sl h0 ≤ 7302250) {h : sv_H} (hw : fn_L_law xs L h = some (r, hE)) (hM : sv_le h0 h) {H : Heap} {locs : List Loc} {ls : Array Slot} (hR : sv_R G vwCl sv_ft B h H) (hS : va_S (fun q => B ≤ q) s.heap H locs) (hl : lv_has ls 4 [(0, .ref b)]) : W p l e room_1 s m #[Value.ref b] below meth c H locs (sv_sz h - sv_sz h0) (sv_sl h - sv_sl h0) (lw_Z below #[Value.ref b] s) (F0 m 0 ls []) := by
  obtain ⟨⟨hx, hb, hr, hml, hown, hts0, hX, hbl, hlk, hgv⟩, hC, hBe⟩ := id K
  have hts : ∀ w ∈ sv_tb, w.before #[Value.ref b] s = true := fun w h => hts0 w (List.mem_filter.mp h).1
  have hBs : B ≤ s.heap.size := Nat.le_of_eq hBe
  have hbA : ¬ B ≤ b := by omega
  have hm := fr_L_law_0 (sv_le.refl h) r hE hw
  unfold fn_L_law at hw
  obtain ⟨a1, h2, ea, eh, hw⟩ := sv_new_ex hw
  have hm : sv_le h2 hE := by
    refine (?_ : sv_fr sv_le h2 _) _ _ hw
    have hs := sv_le.refl h2
    refine fr_cl (fun _ _ e => hs.trans (fr_X12_init e)) (fun _ h hs => ?_)
    refine fr_new hs (fun hs => ?_)
    refine fr_cl (fun _ _ e => hs.trans (fr_X17_init e)) (fun _ h hs => ?_)
    exact fr_L_law_18 sv_fuel hs
  have z3 : sv_sz h2 = sv_sz h + 1 := by rw [eh]; rfl
  have y3 : sv_sl h2 = sv_sl h + 11 := by rw [eh]; rfl
  refine sv_rnew hx hb hts uw_X12 tyX12 tyX12_ok hown (hts _ wd_154) (hts _ wd_155) (hts _ wd_131) hC.1 hR hS hBs (ci := 12) rfl (by decide) rfl (by decide +kernel) (by have q1 := hm.1; have q2 := hM.1; show sv_sz h - sv_sz h0 + 1 ≤ 600000; omega) (by have q1 := hm.2.1; have q2 := hM.2.1; show sv_sl h - sv_sl h0 + 11 ≤ 7302250; omega) dL_law_0 (fun H hR hS => ?_)
  rw [← eh] at hR
  refine sv_csE (cells' := sv_sz h2 - sv_sz h0) (slots' := sv_sl h2 - sv_sl h0) (st2 := [.ref a1]) (by have q2 := hM.1; omega) (by have q2 := hM.2.1; omega) (by rw [ea]) ?_
  have hM : sv_le h0 h2 := by rw [eh]; exact hM.trans (sv_mk_le _ _ _)
  refine lv_dup hx hb dL_law_3 rfl ?_
  obtain ⟨_, h3, hv1, hw⟩ := sv_b_some hw
  have hc2 := fr_X12_init hv1
  have hm : sv_le h3 hE := by
    refine (?_ : sv_fr sv_le h3 _) _ _ hw
    have hs := sv_le.refl h3
    refine fr_new hs (fun hs => ?_)
    refine fr_cl (fun _ _ e => hs.trans (fr_X17_init e)) (fun _ h hs => ?_)
    exact fr_L_law_18 sv_fuel hs
  refine sv_call (va_runI (As := []) (rest := [.ref a1]) ⟨hx, hb, hml, hown, hts⟩ (mt_X12_init l G B hv1) (cwI 0 hts (sv_gd wd_158) rfl rfl rfl (hts _ wd_131) (hts _ wd_156) (hts _ wd_157) rfl (by decide +kernel) ⟨Nat.le_of_ble_eq_true rfl, Nat.le_of_ble_eq_true rfl⟩) ⟨sv_blind, fun U hU hW => sv_pre hC hR hS hBs hU hW⟩ rfl rfl hl.1 rfl (lv_room (Nat.le_of_ble_eq_true rfl)) dL_law_4 ⟨by have q1 := hm.1; have q2 := hM.1; have q3 := hc2.1; show sv_sz h2 - sv_sz h0 + (sv_sz h3 - sv_sz h2) ≤ 600000; omega, by have q1 := hm.2.1; have q2 := hM.2.1; have q3 := hc2.2.1; show sv_sl h2 - sv_sl h0 + (sv_sl h3 - sv_sl h2) ≤ 7302250; omega⟩) hS (fun H locs hR hS => ?_)
  refine sv_csE (cells' := sv_sz h3 - sv_sz h0) (slots' := sv_sl h3 - sv_sl h0) (by have q2 := hM.1; have q3 := hc2.1; omega) (by have q2 := hM.2.1; have q3 := hc2.2.1; omega) rfl ?_
  have hM := hM.trans hc2
  refine lv_astore_n (lv' := [(1, .ref a1), (0, .ref b)]) hx hb dL_law_7 rfl hl (by decide) rfl (fun ls hl => ?_)
  obtain ⟨a4, h5, ea, eh, hw⟩ := sv_new_ex hw
  have hm : sv_le h5 hE := by
    refine (?_ : sv_fr sv_le h5 _) _ _ hw
    have hs := sv_le.refl h5
    refine fr_cl (fun _ _ e => hs.trans (fr_X17_init e)) (fun _ h hs => ?_)
    exact fr_L_law_18 sv_fuel hs
  have z3 : sv_sz h5 = sv_sz h3 + 1 := by rw [eh]; rfl
  have y3 : sv_sl h5 = sv_sl h3 + 29 := by rw [eh]; rfl
  refine sv_rnew hx hb hts uw_X17 tyX17 tyX17_ok hown (hts _ wd_1396) (hts _ wd_1397) (hts _ wd_144) hC.1 hR hS hBs (ci := 17) rfl (by decide) rfl (by decide +kernel) (by have q1 := hm.1; have q2 := hM.1; show sv_sz h3 - sv_sz h0 + 1 ≤ 600000; omega) (by have q1 := hm.2.1; have q2 := hM.2.1; show sv_sl h3 - sv_sl h0 + 29 ≤ 7302250; omega) dL_law_8 (fun H hR hS => ?_)
  rw [← eh] at hR
  refine sv_csE (cells' := sv_sz h5 - sv_sz h0) (slots' := sv_sl h5 - sv_sl h0) (st2 := [.ref a4]) (by have q2 := hM.1; omega) (by have q2 := hM.2.1; omega) (by rw [ea]) ?_
  have hM : sv_le h0 h5 := by rw [eh]; exact hM.trans (sv_mk_le _ _ _)
  refine lv_dup hx hb dL_law_11 rfl ?_
  obtain ⟨_, h6, hv2, hw⟩ := sv_b_some hw
  have hc2 := fr_X17_init hv2
  have hm : sv_le h6 hE := by
    refine (?_ : sv_fr sv_le h6 _) _ _ hw
    have hs := sv_le.refl h6
    exact fr_L_law_18 sv_fuel hs
  refine sv_call (va_runI (As := []) (rest := [.ref a4]) ⟨hx, hb, hml, hown, hts⟩ (mt_X17_init l G B hv2) (cwI 0 hts (sv_gd wd_1400) rfl rfl rfl (hts _ wd_144) (hts _ wd_1398) (hts _ wd_1399) rfl (by decide +kernel) ⟨Nat.le_of_ble_eq_true rfl, Nat.le_of_ble_eq_true rfl⟩) ⟨sv_blind, fun U hU hW => sv_pre hC hR hS hBs hU hW⟩ rfl rfl hl.1 rfl (lv_room (Nat.le_of_ble_eq_true rfl)) dL_law_12 ⟨by have q1 := hm.1; have q2 := hM.1; have q3 := hc2.1; show sv_sz h5 - sv_sz h0 + (sv_sz h6 - sv_sz h5) ≤ 600000; omega, by have q1 := hm.2.1; have q2 := hM.2.1; have q3 := hc2.2.1; show sv_sl h5 - sv_sl h0 + (sv_sl h6 - sv_sl h5) ≤ 7302250; omega⟩) hS (fun H locs hR hS => ?_)
  refine sv_csE (cells' := sv_sz h6 - sv_sz h0) (slots' := sv_sl h6 - sv_sl h0) (by have q2 := hM.1; have q3 := hc2.1; omega) (by have q2 := hM.2.1; have q3 := hc2.2.1; omega) rfl ?_
  have hM := hM.trans hc2
  refine lv_astore_n (lv' := [(2, .ref a4), (1, .ref a1), (0, .ref b)]) hx hb dL_law_15 rfl hl (by decide) rfl (fun ls hl => ?_)
  refine lv_iconst (v := 0) hx hb dL_law_16 (by decide) ?_
  refine lv_istore_n (lv' := [(3, .int 0), (2, .ref a4), (1, .ref a1), (0, .ref b)]) hx hb dL_law_17 rfl hl (by decide) rfl (fun ls hl => ?_)
  exact lk_L_law_18 K hr1 hQ1 hQ2 sv_fuel hw hM hR hS (lv_sub hl [3, 2, 1, 0] rfl)

